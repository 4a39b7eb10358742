theorem qsc_27 : Cond.selects "LineAssembler$Formulas" (⟨"LineAssembler$Formulas", "takePart", "()Z"⟩ : MethodName) ⟨"LineAssembler$Formulas", "takePart", "()Z"⟩ ∈ lw_gd := lw_gds (List.mem_of_getElem? (i := 27) (by decide +kernel)) (by decide +kernel)
theorem qsc_28 : Cond.selects "LineAssembler$Formulas" (⟨"LineAssembler$Formulas", "takeOperand", "(I)Z"⟩ : MethodName) ⟨"LineAssembler$Formulas", "takeOperand", "(I)Z"⟩ ∈ lw_gd := lw_gds (List.mem_of_getElem? (i := 28) (by decide +kernel)) (by decide +kernel)
theorem qsc_29 : Cond.selects "LineAssembler$Formulas" (⟨"LineAssembler$Formulas", "settleSigns", "(I)V"⟩ : MethodName) ⟨"LineAssembler$Formulas", "settleSigns", "(I)V"⟩ ∈ lw_gd := lw_gds (List.mem_of_getElem? (i := 29) (by decide +kernel)) (by decide +kernel)
theorem qsc_30 : Cond.selects "LineAssembler$Formulas" (⟨"LineAssembler$Formulas", "valueOf", "(I)I"⟩ : MethodName) ⟨"LineAssembler$Formulas", "valueOf", "(I)I"⟩ ∈ lw_gd := lw_gds (List.mem_of_getElem? (i := 30) (by decide +kernel)) (by decide +kernel)
theorem qsc_31 : Cond.selects "LineAssembler$Formulas" (⟨"LineAssembler$Formulas", "nearAddress", "(II)I"⟩ : MethodName) ⟨"LineAssembler$Formulas", "nearAddress", "(II)I"⟩ ∈ lw_gd := lw_gds (List.mem_of_getElem? (i := 31) (by decide +kernel)) (by decide +kernel)
theorem qsc_32 : Cond.selects "LineAssembler$Formulas" (⟨"LineAssembler$Formulas", "joined", "(III)I"⟩ : MethodName) ⟨"LineAssembler$Formulas", "joined", "(III)I"⟩ ∈ lw_gd := lw_gds (List.mem_of_getElem? (i := 32) (by decide +kernel)) (by decide +kernel)
theorem qc_20 : (Jvm.Cond.initialized "LineAssembler$Formulas") ∈ lw_gd := uc_0 (List.mem_of_getElem? (i := 20) (by decide +kernel)) (by decide +kernel)
theorem qc_56 : (Jvm.Cond.fieldLink "LineAssembler$Formulas" (63 : Nat) "LineAssembler$Row" "count" "I") ∈ lw_gd := uc_0 (List.mem_of_getElem? (i := 56) (by decide +kernel)) (by decide +kernel)
theorem qc_216 : (Jvm.Cond.fieldLink "LineAssembler$Formulas" (107 : Nat) "LineAssembler$Names" "sorts" "LLineAssembler$Row;") ∈ lw_gd := uc_0 (List.mem_of_getElem? (i := 216) (by decide +kernel)) (by decide +kernel)
theorem qc_218 : (Jvm.Cond.fieldLink "LineAssembler$Formulas" (145 : Nat) "LineAssembler$Names" "values" "LLineAssembler$Row;") ∈ lw_gd := uc_0 (List.mem_of_getElem? (i := 218) (by decide +kernel)) (by decide +kernel)
theorem qc_226 : (Jvm.Cond.fieldLink "LineAssembler$Formulas" (102 : Nat) "LineAssembler$Names" "dot" "I") ∈ lw_gd := uc_0 (List.mem_of_getElem? (i := 226) (by decide +kernel)) (by decide +kernel)
theorem qc_228 : (Jvm.Cond.fieldLink "LineAssembler$Formulas" (118 : Nat) "LineAssembler$Names" "hi" "I") ∈ lw_gd := uc_0 (List.mem_of_getElem? (i := 228) (by decide +kernel)) (by decide +kernel)
theorem qc_230 : (Jvm.Cond.fieldLink "LineAssembler$Formulas" (121 : Nat) "LineAssembler$Names" "lo" "I") ∈ lw_gd := uc_0 (List.mem_of_getElem? (i := 230) (by decide +kernel)) (by decide +kernel)
theorem qc_348 : (Jvm.Cond.fieldLink "LineAssembler$Formulas" (150 : Nat) "LineAssembler$Item" "word" "I") ∈ lw_gd := uc_1 (List.mem_of_getElem? (i := 108) (by decide +kernel)) (by decide +kernel)
theorem qc_462 : (Jvm.Cond.fieldLink "LineAssembler$Formulas" (9 : Nat) "LineAssembler$Formulas" "fixed" "Z") ∈ lw_gd := uc_1 (List.mem_of_getElem? (i := 222) (by decide +kernel)) (by decide +kernel)
theorem qc_464 : (Jvm.Cond.fieldLink "LineAssembler$Formulas" (15 : Nat) "LineAssembler$Formulas" "result" "I") ∈ lw_gd := uc_1 (List.mem_of_getElem? (i := 224) (by decide +kernel)) (by decide +kernel)
theorem qc_467 : (Jvm.Cond.fieldLink "LineAssembler$Formulas" (47 : Nat) "LineAssembler$Formulas" "names" "LLineAssembler$Names;") ∈ lw_gd := uc_1 (List.mem_of_getElem? (i := 227) (by decide +kernel)) (by decide +kernel)
theorem qc_468 : (Jvm.Cond.fieldLink "LineAssembler$Formulas" (51 : Nat) "LineAssembler$Formulas" "tokens" "LLineAssembler$Tokens;") ∈ lw_gd := uc_1 (List.mem_of_getElem? (i := 228) (by decide +kernel)) (by decide +kernel)
theorem qc_469 : (Jvm.Cond.fieldLink "LineAssembler$Formulas" (55 : Nat) "LineAssembler$Formulas" "program" "LLineAssembler$Program;") ∈ lw_gd := uc_1 (List.mem_of_getElem? (i := 229) (by decide +kernel)) (by decide +kernel)
theorem qc_470 : (Jvm.Cond.fieldLink "LineAssembler$Formulas" (22 : Nat) "LineAssembler$Formulas" "kinds" "LLineAssembler$Row;") ∈ lw_gd := uc_1 (List.mem_of_getElem? (i := 230) (by decide +kernel)) (by decide +kernel)
theorem qc_471 : (Jvm.Cond.fieldLink "LineAssembler$Formulas" (26 : Nat) "LineAssembler$Formulas" "values" "LLineAssembler$Row;") ∈ lw_gd := uc_1 (List.mem_of_getElem? (i := 231) (by decide +kernel)) (by decide +kernel)
theorem qc_472 : (Jvm.Cond.fieldLink "LineAssembler$Formulas" (29 : Nat) "LineAssembler$Formulas" "signs" "LLineAssembler$Row;") ∈ lw_gd := uc_1 (List.mem_of_getElem? (i := 232) (by decide +kernel)) (by decide +kernel)
theorem qc_473 : (Jvm.Cond.fieldLink "LineAssembler$Formulas" (32 : Nat) "LineAssembler$Formulas" "stack" "LLineAssembler$Row;") ∈ lw_gd := uc_1 (List.mem_of_getElem? (i := 233) (by decide +kernel)) (by decide +kernel)
theorem qc_474 : (Jvm.Cond.fieldLink "LineAssembler$Formulas" (35 : Nat) "LineAssembler$Formulas" "wanted" "Z") ∈ lw_gd := uc_1 (List.mem_of_getElem? (i := 234) (by decide +kernel)) (by decide +kernel)
theorem qc_475 : (Jvm.Cond.fieldLink "LineAssembler$Formulas" (38 : Nat) "LineAssembler$Formulas" "open" "I") ∈ lw_gd := uc_1 (List.mem_of_getElem? (i := 235) (by decide +kernel)) (by decide +kernel)
theorem qc_476 : (Jvm.Cond.fieldLink "LineAssembler$Formulas" (41 : Nat) "LineAssembler$Formulas" "unknown" "Z") ∈ lw_gd := uc_1 (List.mem_of_getElem? (i := 236) (by decide +kernel)) (by decide +kernel)
theorem qc_477 : (Jvm.Cond.fieldLink "LineAssembler$Formulas" (44 : Nat) "LineAssembler$Formulas" "divided" "Z") ∈ lw_gd := uc_1 (List.mem_of_getElem? (i := 237) (by decide +kernel)) (by decide +kernel)
theorem qc_995 : (Jvm.Cond.methodLink "LineAssembler$Formulas" (59 : Nat) ({ cls := "LineAssembler$Formulas", name := "dropFrom", desc := "(I)V" } : Jvm.MethodName)) ∈ lw_gd := uc_4 (List.mem_of_getElem? (i := 35) (by decide +kernel)) (by decide +kernel)
theorem qc_996 : (Jvm.Cond.instanceMethod ({ cls := "LineAssembler$Formulas", name := "dropFrom", desc := "(I)V" } : Jvm.MethodName)) ∈ lw_gd := uc_4 (List.mem_of_getElem? (i := 36) (by decide +kernel)) (by decide +kernel)
theorem qc_997 : (Jvm.Cond.selects "LineAssembler$Formulas" ({ cls := "LineAssembler$Formulas", name := "dropFrom", desc := "(I)V" } : Jvm.MethodName) ({ cls := "LineAssembler$Formulas", name := "dropFrom", desc := "(I)V" } : Jvm.MethodName)) ∈ lw_gd := uc_4 (List.mem_of_getElem? (i := 37) (by decide +kernel)) (by decide +kernel)
theorem qc_998 : (Jvm.Cond.code ({ cls := "LineAssembler$Formulas", name := "dropFrom", desc := "(I)V" } : Jvm.MethodName) prog_4_method_4_code (2 : Nat) (Option.none : Option Jvm.ClassFile.FieldType)) ∈ lw_gd := uc_4 (List.mem_of_getElem? (i := 38) (by decide +kernel)) (by decide +kernel)
theorem qc_999 : (Jvm.Cond.methodLink "LineAssembler$Formulas" (66 : Nat) ({ cls := "LineAssembler$Row", name := "cut", desc := "(I)V" } : Jvm.MethodName)) ∈ lw_gd := uc_4 (List.mem_of_getElem? (i := 39) (by decide +kernel)) (by decide +kernel)
theorem qc_1076 : (Jvm.Cond.instanceMethod ({ cls := "LineAssembler$Tokens", name := "left", desc := "()I" } : Jvm.MethodName)) ∈ lw_gd := uc_4 (List.mem_of_getElem? (i := 116) (by decide +kernel)) (by decide +kernel)
theorem qc_1077 : (Jvm.Cond.selects "LineAssembler$Tokens" ({ cls := "LineAssembler$Tokens", name := "left", desc := "()I" } : Jvm.MethodName) ({ cls := "LineAssembler$Tokens", name := "left", desc := "()I" } : Jvm.MethodName)) ∈ lw_gd := uc_4 (List.mem_of_getElem? (i := 117) (by decide +kernel)) (by decide +kernel)
theorem qc_1078 : (Jvm.Cond.code ({ cls := "LineAssembler$Tokens", name := "left", desc := "()I" } : Jvm.MethodName) prog_12_method_4_code (1 : Nat) (Option.some Jvm.ClassFile.FieldType.int)) ∈ lw_gd := uc_4 (List.mem_of_getElem? (i := 118) (by decide +kernel)) (by decide +kernel)
theorem qc_1084 : (Jvm.Cond.instanceMethod ({ cls := "LineAssembler$Tokens", name := "kind", desc := "(I)I" } : Jvm.MethodName)) ∈ lw_gd := uc_4 (List.mem_of_getElem? (i := 124) (by decide +kernel)) (by decide +kernel)
theorem qc_1085 : (Jvm.Cond.selects "LineAssembler$Tokens" ({ cls := "LineAssembler$Tokens", name := "kind", desc := "(I)I" } : Jvm.MethodName) ({ cls := "LineAssembler$Tokens", name := "kind", desc := "(I)I" } : Jvm.MethodName)) ∈ lw_gd := uc_4 (List.mem_of_getElem? (i := 125) (by decide +kernel)) (by decide +kernel)
theorem qc_1086 : (Jvm.Cond.code ({ cls := "LineAssembler$Tokens", name := "kind", desc := "(I)I" } : Jvm.MethodName) prog_12_method_6_code (3 : Nat) (Option.some Jvm.ClassFile.FieldType.int)) ∈ lw_gd := uc_4 (List.mem_of_getElem? (i := 126) (by decide +kernel)) (by decide +kernel)
theorem qc_1092 : (Jvm.Cond.instanceMethod ({ cls := "LineAssembler$Tokens", name := "value", desc := "(I)I" } : Jvm.MethodName)) ∈ lw_gd := uc_4 (List.mem_of_getElem? (i := 132) (by decide +kernel)) (by decide +kernel)
theorem qc_1093 : (Jvm.Cond.selects "LineAssembler$Tokens" ({ cls := "LineAssembler$Tokens", name := "value", desc := "(I)I" } : Jvm.MethodName) ({ cls := "LineAssembler$Tokens", name := "value", desc := "(I)I" } : Jvm.MethodName)) ∈ lw_gd := uc_4 (List.mem_of_getElem? (i := 133) (by decide +kernel)) (by decide +kernel)
theorem qc_1094 : (Jvm.Cond.code ({ cls := "LineAssembler$Tokens", name := "value", desc := "(I)I" } : Jvm.MethodName) prog_12_method_7_code (3 : Nat) (Option.some Jvm.ClassFile.FieldType.int)) ∈ lw_gd := uc_4 (List.mem_of_getElem? (i := 134) (by decide +kernel)) (by decide +kernel)
theorem qc_1118 : (Jvm.Cond.instanceMethod ({ cls := "LineAssembler$Tokens", name := "skip", desc := "(I)V" } : Jvm.MethodName)) ∈ lw_gd := uc_4 (List.mem_of_getElem? (i := 158) (by decide +kernel)) (by decide +kernel)
theorem qc_1119 : (Jvm.Cond.selects "LineAssembler$Tokens" ({ cls := "LineAssembler$Tokens", name := "skip", desc := "(I)V" } : Jvm.MethodName) ({ cls := "LineAssembler$Tokens", name := "skip", desc := "(I)V" } : Jvm.MethodName)) ∈ lw_gd := uc_4 (List.mem_of_getElem? (i := 159) (by decide +kernel)) (by decide +kernel)
theorem qc_1120 : (Jvm.Cond.code ({ cls := "LineAssembler$Tokens", name := "skip", desc := "(I)V" } : Jvm.MethodName) prog_12_method_5_code (2 : Nat) (Option.none : Option Jvm.ClassFile.FieldType)) ∈ lw_gd := uc_4 (List.mem_of_getElem? (i := 160) (by decide +kernel)) (by decide +kernel)
theorem qc_1146 : (Jvm.Cond.methodLink "LineAssembler$Formulas" (69 : Nat) ({ cls := "LineAssembler$Tokens", name := "left", desc := "()I" } : Jvm.MethodName)) ∈ lw_gd := uc_4 (List.mem_of_getElem? (i := 186) (by decide +kernel)) (by decide +kernel)
theorem qc_1147 : (Jvm.Cond.methodLink "LineAssembler$Formulas" (75 : Nat) ({ cls := "LineAssembler$Tokens", name := "kind", desc := "(I)I" } : Jvm.MethodName)) ∈ lw_gd := uc_4 (List.mem_of_getElem? (i := 187) (by decide +kernel)) (by decide +kernel)
theorem qc_1148 : (Jvm.Cond.methodLink "LineAssembler$Formulas" (79 : Nat) ({ cls := "LineAssembler$Formulas", name := "takePart", desc := "()Z" } : Jvm.MethodName)) ∈ lw_gd := uc_4 (List.mem_of_getElem? (i := 188) (by decide +kernel)) (by decide +kernel)
theorem qc_1150 : (Jvm.Cond.instanceMethod ({ cls := "LineAssembler$Formulas", name := "takePart", desc := "()Z" } : Jvm.MethodName)) ∈ lw_gd := uc_4 (List.mem_of_getElem? (i := 190) (by decide +kernel)) (by decide +kernel)
theorem qc_1151 : (Jvm.Cond.code ({ cls := "LineAssembler$Formulas", name := "takePart", desc := "()Z" } : Jvm.MethodName) prog_4_method_7_code (2 : Nat) (Option.some Jvm.ClassFile.FieldType.boolean)) ∈ lw_gd := uc_4 (List.mem_of_getElem? (i := 191) (by decide +kernel)) (by decide +kernel)
theorem qc_1152 : (Jvm.Cond.methodLink "LineAssembler$Formulas" (99 : Nat) ({ cls := "LineAssembler$Tokens", name := "value", desc := "(I)I" } : Jvm.MethodName)) ∈ lw_gd := uc_4 (List.mem_of_getElem? (i := 192) (by decide +kernel)) (by decide +kernel)
theorem qc_1153 : (Jvm.Cond.methodLink "LineAssembler$Formulas" (93 : Nat) ({ cls := "LineAssembler$Row", name := "add", desc := "(I)V" } : Jvm.MethodName)) ∈ lw_gd := uc_4 (List.mem_of_getElem? (i := 193) (by decide +kernel)) (by decide +kernel)
theorem qc_1154 : (Jvm.Cond.methodLink "LineAssembler$Formulas" (96 : Nat) ({ cls := "LineAssembler$Tokens", name := "skip", desc := "(I)V" } : Jvm.MethodName)) ∈ lw_gd := uc_4 (List.mem_of_getElem? (i := 194) (by decide +kernel)) (by decide +kernel)
theorem qc_1155 : (Jvm.Cond.methodLink "LineAssembler$Formulas" (83 : Nat) ({ cls := "LineAssembler$Formulas", name := "takeOperand", desc := "(I)Z" } : Jvm.MethodName)) ∈ lw_gd := uc_4 (List.mem_of_getElem? (i := 195) (by decide +kernel)) (by decide +kernel)
theorem qc_1157 : (Jvm.Cond.instanceMethod ({ cls := "LineAssembler$Formulas", name := "takeOperand", desc := "(I)Z" } : Jvm.MethodName)) ∈ lw_gd := uc_4 (List.mem_of_getElem? (i := 197) (by decide +kernel)) (by decide +kernel)
theorem qc_1158 : (Jvm.Cond.code ({ cls := "LineAssembler$Formulas", name := "takeOperand", desc := "(I)Z" } : Jvm.MethodName) prog_4_method_6_code (4 : Nat) (Option.some Jvm.ClassFile.FieldType.boolean)) ∈ lw_gd := uc_4 (List.mem_of_getElem? (i := 198) (by decide +kernel)) (by decide +kernel)
theorem qc_1159 : (Jvm.Cond.methodLink "LineAssembler$Formulas" (110 : Nat) ({ cls := "LineAssembler$Row", name := "get", desc := "(I)I" } : Jvm.MethodName)) ∈ lw_gd := uc_4 (List.mem_of_getElem? (i := 199) (by decide +kernel)) (by decide +kernel)
theorem qc_1160 : (Jvm.Cond.methodLink "LineAssembler$Formulas" (113 : Nat) ({ cls := "LineAssembler$Program", name := "latest", desc := "(I)I" } : Jvm.MethodName)) ∈ lw_gd := uc_4 (List.mem_of_getElem? (i := 200) (by decide +kernel)) (by decide +kernel)
theorem qc_1161 : (Jvm.Cond.instanceMethod ({ cls := "LineAssembler$Program", name := "latest", desc := "(I)I" } : Jvm.MethodName)) ∈ lw_gd := uc_4 (List.mem_of_getElem? (i := 201) (by decide +kernel)) (by decide +kernel)
theorem qc_1162 : (Jvm.Cond.selects "LineAssembler$Program" ({ cls := "LineAssembler$Program", name := "latest", desc := "(I)I" } : Jvm.MethodName) ({ cls := "LineAssembler$Program", name := "latest", desc := "(I)I" } : Jvm.MethodName)) ∈ lw_gd := uc_4 (List.mem_of_getElem? (i := 202) (by decide +kernel)) (by decide +kernel)
theorem qc_1163 : (Jvm.Cond.code ({ cls := "LineAssembler$Program", name := "latest", desc := "(I)I" } : Jvm.MethodName) prog_10_method_6_code (2 : Nat) (Option.some Jvm.ClassFile.FieldType.int)) ∈ lw_gd := uc_4 (List.mem_of_getElem? (i := 203) (by decide +kernel)) (by decide +kernel)
theorem qc_1164 : (Jvm.Cond.methodLink "LineAssembler$Formulas" (87 : Nat) ({ cls := "LineAssembler$Formulas", name := "settleSigns", desc := "(I)V" } : Jvm.MethodName)) ∈ lw_gd := uc_4 (List.mem_of_getElem? (i := 204) (by decide +kernel)) (by decide +kernel)
theorem qc_1166 : (Jvm.Cond.instanceMethod ({ cls := "LineAssembler$Formulas", name := "settleSigns", desc := "(I)V" } : Jvm.MethodName)) ∈ lw_gd := uc_4 (List.mem_of_getElem? (i := 206) (by decide +kernel)) (by decide +kernel)
theorem qc_1167 : (Jvm.Cond.code ({ cls := "LineAssembler$Formulas", name := "settleSigns", desc := "(I)V" } : Jvm.MethodName) prog_4_method_8_code (4 : Nat) (Option.none : Option Jvm.ClassFile.FieldType)) ∈ lw_gd := uc_4 (List.mem_of_getElem? (i := 207) (by decide +kernel)) (by decide +kernel)
theorem qc_1168 : (Jvm.Cond.methodLink "LineAssembler$Formulas" (90 : Nat) ({ cls := "LineAssembler$Formulas", name := "level", desc := "(I)I" } : Jvm.MethodName)) ∈ lw_gd := uc_4 (List.mem_of_getElem? (i := 208) (by decide +kernel)) (by decide +kernel)
theorem qc_1169 : (Jvm.Cond.static ({ cls := "LineAssembler$Formulas", name := "level", desc := "(I)I" } : Jvm.MethodName)) ∈ lw_gd := uc_4 (List.mem_of_getElem? (i := 209) (by decide +kernel)) (by decide +kernel)
theorem qc_1170 : (Jvm.Cond.code ({ cls := "LineAssembler$Formulas", name := "level", desc := "(I)I" } : Jvm.MethodName) prog_4_method_9_code (1 : Nat) (Option.some Jvm.ClassFile.FieldType.int)) ∈ lw_gd := uc_4 (List.mem_of_getElem? (i := 210) (by decide +kernel)) (by decide +kernel)
theorem qc_1175 : (Jvm.Cond.methodLink "LineAssembler$Formulas" (124 : Nat) ({ cls := "LineAssembler$Formulas", name := "valueOf", desc := "(I)I" } : Jvm.MethodName)) ∈ lw_gd := uc_4 (List.mem_of_getElem? (i := 215) (by decide +kernel)) (by decide +kernel)
theorem qc_1177 : (Jvm.Cond.instanceMethod ({ cls := "LineAssembler$Formulas", name := "valueOf", desc := "(I)I" } : Jvm.MethodName)) ∈ lw_gd := uc_4 (List.mem_of_getElem? (i := 217) (by decide +kernel)) (by decide +kernel)
theorem qc_1178 : (Jvm.Cond.code ({ cls := "LineAssembler$Formulas", name := "valueOf", desc := "(I)I" } : Jvm.MethodName) prog_4_method_11_code (4 : Nat) (Option.some Jvm.ClassFile.FieldType.int)) ∈ lw_gd := uc_4 (List.mem_of_getElem? (i := 218) (by decide +kernel)) (by decide +kernel)
theorem qc_1179 : (Jvm.Cond.methodLink "LineAssembler$Formulas" (127 : Nat) ({ cls := "LineAssembler$Program", name := "addressOf", desc := "(I)I" } : Jvm.MethodName)) ∈ lw_gd := uc_4 (List.mem_of_getElem? (i := 219) (by decide +kernel)) (by decide +kernel)
theorem qc_1180 : (Jvm.Cond.instanceMethod ({ cls := "LineAssembler$Program", name := "addressOf", desc := "(I)I" } : Jvm.MethodName)) ∈ lw_gd := uc_4 (List.mem_of_getElem? (i := 220) (by decide +kernel)) (by decide +kernel)
theorem qc_1181 : (Jvm.Cond.selects "LineAssembler$Program" ({ cls := "LineAssembler$Program", name := "addressOf", desc := "(I)I" } : Jvm.MethodName) ({ cls := "LineAssembler$Program", name := "addressOf", desc := "(I)I" } : Jvm.MethodName)) ∈ lw_gd := uc_4 (List.mem_of_getElem? (i := 221) (by decide +kernel)) (by decide +kernel)
theorem qc_1182 : (Jvm.Cond.code ({ cls := "LineAssembler$Program", name := "addressOf", desc := "(I)I" } : Jvm.MethodName) prog_10_method_8_code (3 : Nat) (Option.some Jvm.ClassFile.FieldType.int)) ∈ lw_gd := uc_4 (List.mem_of_getElem? (i := 222) (by decide +kernel)) (by decide +kernel)
theorem qc_1183 : (Jvm.Cond.methodLink "LineAssembler$Formulas" (130 : Nat) ({ cls := "LineAssembler$Formulas", name := "nearAddress", desc := "(II)I" } : Jvm.MethodName)) ∈ lw_gd := uc_4 (List.mem_of_getElem? (i := 223) (by decide +kernel)) (by decide +kernel)
theorem qc_1185 : (Jvm.Cond.instanceMethod ({ cls := "LineAssembler$Formulas", name := "nearAddress", desc := "(II)I" } : Jvm.MethodName)) ∈ lw_gd := uc_4 (List.mem_of_getElem? (i := 225) (by decide +kernel)) (by decide +kernel)
theorem qc_1186 : (Jvm.Cond.code ({ cls := "LineAssembler$Formulas", name := "nearAddress", desc := "(II)I" } : Jvm.MethodName) prog_4_method_12_code (4 : Nat) (Option.some Jvm.ClassFile.FieldType.int)) ∈ lw_gd := uc_4 (List.mem_of_getElem? (i := 226) (by decide +kernel)) (by decide +kernel)
theorem qc_1187 : (Jvm.Cond.methodLink "LineAssembler$Formulas" (146 : Nat) ({ cls := "LineAssembler$Program", name := "find", desc := "(I)LLineAssembler$Item;" } : Jvm.MethodName)) ∈ lw_gd := uc_4 (List.mem_of_getElem? (i := 227) (by decide +kernel)) (by decide +kernel)
theorem qc_1188 : (Jvm.Cond.methodLink "LineAssembler$Formulas" (155 : Nat) ({ cls := "LineAssembler$Program", name := "isInText", desc := "(I)Z" } : Jvm.MethodName)) ∈ lw_gd := uc_4 (List.mem_of_getElem? (i := 228) (by decide +kernel)) (by decide +kernel)
theorem qc_1189 : (Jvm.Cond.instanceMethod ({ cls := "LineAssembler$Program", name := "isInText", desc := "(I)Z" } : Jvm.MethodName)) ∈ lw_gd := uc_4 (List.mem_of_getElem? (i := 229) (by decide +kernel)) (by decide +kernel)
theorem qc_1190 : (Jvm.Cond.selects "LineAssembler$Program" ({ cls := "LineAssembler$Program", name := "isInText", desc := "(I)Z" } : Jvm.MethodName) ({ cls := "LineAssembler$Program", name := "isInText", desc := "(I)Z" } : Jvm.MethodName)) ∈ lw_gd := uc_4 (List.mem_of_getElem? (i := 230) (by decide +kernel)) (by decide +kernel)
theorem qc_1191 : (Jvm.Cond.code ({ cls := "LineAssembler$Program", name := "isInText", desc := "(I)Z" } : Jvm.MethodName) prog_10_method_7_code (2 : Nat) (Option.some Jvm.ClassFile.FieldType.boolean)) ∈ lw_gd := uc_4 (List.mem_of_getElem? (i := 231) (by decide +kernel)) (by decide +kernel)
theorem qc_1192 : (Jvm.Cond.methodLink "LineAssembler$Formulas" (134 : Nat) ({ cls := "LineAssembler$Formulas", name := "changed", desc := "(II)I" } : Jvm.MethodName)) ∈ lw_gd := uc_4 (List.mem_of_getElem? (i := 232) (by decide +kernel)) (by decide +kernel)
theorem qc_1193 : (Jvm.Cond.static ({ cls := "LineAssembler$Formulas", name := "changed", desc := "(II)I" } : Jvm.MethodName)) ∈ lw_gd := uc_4 (List.mem_of_getElem? (i := 233) (by decide +kernel)) (by decide +kernel)
theorem qc_1194 : (Jvm.Cond.code ({ cls := "LineAssembler$Formulas", name := "changed", desc := "(II)I" } : Jvm.MethodName) prog_4_method_13_code (2 : Nat) (Option.some Jvm.ClassFile.FieldType.int)) ∈ lw_gd := uc_4 (List.mem_of_getElem? (i := 234) (by decide +kernel)) (by decide +kernel)
theorem qc_1195 : (Jvm.Cond.methodLink "LineAssembler$Formulas" (137 : Nat) ({ cls := "LineAssembler$Row", name := "set", desc := "(II)V" } : Jvm.MethodName)) ∈ lw_gd := uc_4 (List.mem_of_getElem? (i := 235) (by decide +kernel)) (by decide +kernel)
theorem qc_1196 : (Jvm.Cond.methodLink "LineAssembler$Formulas" (141 : Nat) ({ cls := "LineAssembler$Formulas", name := "joined", desc := "(III)I" } : Jvm.MethodName)) ∈ lw_gd := uc_4 (List.mem_of_getElem? (i := 236) (by decide +kernel)) (by decide +kernel)
theorem qc_1198 : (Jvm.Cond.instanceMethod ({ cls := "LineAssembler$Formulas", name := "joined", desc := "(III)I" } : Jvm.MethodName)) ∈ lw_gd := uc_4 (List.mem_of_getElem? (i := 238) (by decide +kernel)) (by decide +kernel)
theorem qc_1199 : (Jvm.Cond.code ({ cls := "LineAssembler$Formulas", name := "joined", desc := "(III)I" } : Jvm.MethodName) prog_4_method_14_code (4 : Nat) (Option.some Jvm.ClassFile.FieldType.int)) ∈ lw_gd := uc_4 (List.mem_of_getElem? (i := 239) (by decide +kernel)) (by decide +kernel)
abbrev cC_Frm_end : ByteArray := prog_4_method_3_code
def yC_Frm_end : MethodName := ⟨R_Frm, "end", "()I"⟩
theorem dC_Frm_end_0 : decode cC_Frm_end 0 = .ok (.aload_n 0, 1) := by decide +kernel
theorem dC_Frm_end_1 : decode cC_Frm_end 1 = .ok (.getfield 22, 3) := by decide +kernel
theorem dC_Frm_end_4 : decode cC_Frm_end 4 = .ok (.getfield 63, 3) := by decide +kernel
theorem dC_Frm_end_7 : decode cC_Frm_end 7 = .ok (.ireturn, 1) := by decide +kernel
abbrev cC_Frm_dropFrom : ByteArray := prog_4_method_4_code
def yC_Frm_dropFrom : MethodName := ⟨R_Frm, "dropFrom", "(I)V"⟩
theorem dC_Frm_dropFrom_0 : decode cC_Frm_dropFrom 0 = .ok (.aload_n 0, 1) := by decide +kernel
theorem dC_Frm_dropFrom_1 : decode cC_Frm_dropFrom 1 = .ok (.getfield 22, 3) := by decide +kernel
theorem dC_Frm_dropFrom_4 : decode cC_Frm_dropFrom 4 = .ok (.iload_n 1, 1) := by decide +kernel
theorem dC_Frm_dropFrom_5 : decode cC_Frm_dropFrom 5 = .ok (.invokevirtual 66, 3) := by decide +kernel
theorem dC_Frm_dropFrom_8 : decode cC_Frm_dropFrom 8 = .ok (.aload_n 0, 1) := by decide +kernel
theorem dC_Frm_dropFrom_9 : decode cC_Frm_dropFrom 9 = .ok (.getfield 26, 3) := by decide +kernel
theorem dC_Frm_dropFrom_12 : decode cC_Frm_dropFrom 12 = .ok (.iload_n 1, 1) := by decide +kernel
theorem dC_Frm_dropFrom_13 : decode cC_Frm_dropFrom 13 = .ok (.invokevirtual 66, 3) := by decide +kernel
theorem dC_Frm_dropFrom_16 : decode cC_Frm_dropFrom 16 = .ok (.return_, 1) := by decide +kernel
abbrev cC_Frm_empty : ByteArray := prog_4_method_2_code
def yC_Frm_empty : MethodName := ⟨R_Frm, "empty", "()V"⟩
theorem dC_Frm_empty_0 : decode cC_Frm_empty 0 = .ok (.aload_n 0, 1) := by decide +kernel
theorem dC_Frm_empty_1 : decode cC_Frm_empty 1 = .ok (.iconst (0), 1) := by decide +kernel
theorem dC_Frm_empty_2 : decode cC_Frm_empty 2 = .ok (.invokevirtual 59, 3) := by decide +kernel
theorem dC_Frm_empty_5 : decode cC_Frm_empty 5 = .ok (.return_, 1) := by decide +kernel
abbrev cC_Frm_joined : ByteArray := prog_4_method_14_code
def yC_Frm_joined : MethodName := ⟨R_Frm, "joined", "(III)I"⟩
theorem dC_Frm_joined_0 : decode cC_Frm_joined 0 = .ok (.iload_n 1, 1) := by decide +kernel
theorem dC_Frm_joined_1 : decode cC_Frm_joined 1 = .ok (.lookupswitch (138) #[(37, 87), (38, 130), (42, 83), (43, 114), (45, 118), (47, 87), (60, 122), (62, 126), (94, 134)], 83) := by decide +kernel
theorem dC_Frm_joined_84 : decode cC_Frm_joined 84 = .ok (.iload_n 2, 1) := by decide +kernel
theorem dC_Frm_joined_85 : decode cC_Frm_joined 85 = .ok (.iload_n 3, 1) := by decide +kernel
theorem dC_Frm_joined_86 : decode cC_Frm_joined 86 = .ok (.imul, 1) := by decide +kernel
theorem dC_Frm_joined_87 : decode cC_Frm_joined 87 = .ok (.ireturn, 1) := by decide +kernel
theorem dC_Frm_joined_88 : decode cC_Frm_joined 88 = .ok (.iload_n 3, 1) := by decide +kernel
theorem dC_Frm_joined_89 : decode cC_Frm_joined 89 = .ok (.ifCond .ne (10), 3) := by decide +kernel
theorem dC_Frm_joined_92 : decode cC_Frm_joined 92 = .ok (.aload_n 0, 1) := by decide +kernel
theorem dC_Frm_joined_93 : decode cC_Frm_joined 93 = .ok (.iconst (1), 1) := by decide +kernel
theorem dC_Frm_joined_94 : decode cC_Frm_joined 94 = .ok (.putfield 44, 3) := by decide +kernel
theorem dC_Frm_joined_97 : decode cC_Frm_joined 97 = .ok (.iconst (0), 1) := by decide +kernel
theorem dC_Frm_joined_98 : decode cC_Frm_joined 98 = .ok (.ireturn, 1) := by decide +kernel
theorem dC_Frm_joined_99 : decode cC_Frm_joined 99 = .ok (.iload_n 1, 1) := by decide +kernel
theorem dC_Frm_joined_100 : decode cC_Frm_joined 100 = .ok (.bipush (47), 2) := by decide +kernel
theorem dC_Frm_joined_102 : decode cC_Frm_joined 102 = .ok (.if_icmp .ne (9), 3) := by decide +kernel
theorem dC_Frm_joined_105 : decode cC_Frm_joined 105 = .ok (.iload_n 2, 1) := by decide +kernel
theorem dC_Frm_joined_106 : decode cC_Frm_joined 106 = .ok (.iload_n 3, 1) := by decide +kernel
theorem dC_Frm_joined_107 : decode cC_Frm_joined 107 = .ok (.idiv, 1) := by decide +kernel
theorem dC_Frm_joined_108 : decode cC_Frm_joined 108 = .ok (.goto (6), 3) := by decide +kernel
theorem dC_Frm_joined_111 : decode cC_Frm_joined 111 = .ok (.iload_n 2, 1) := by decide +kernel
theorem dC_Frm_joined_112 : decode cC_Frm_joined 112 = .ok (.iload_n 3, 1) := by decide +kernel
theorem dC_Frm_joined_113 : decode cC_Frm_joined 113 = .ok (.irem, 1) := by decide +kernel
theorem dC_Frm_joined_114 : decode cC_Frm_joined 114 = .ok (.ireturn, 1) := by decide +kernel
theorem dC_Frm_joined_115 : decode cC_Frm_joined 115 = .ok (.iload_n 2, 1) := by decide +kernel
theorem dC_Frm_joined_116 : decode cC_Frm_joined 116 = .ok (.iload_n 3, 1) := by decide +kernel
theorem dC_Frm_joined_117 : decode cC_Frm_joined 117 = .ok (.iadd, 1) := by decide +kernel
theorem dC_Frm_joined_118 : decode cC_Frm_joined 118 = .ok (.ireturn, 1) := by decide +kernel
theorem dC_Frm_joined_119 : decode cC_Frm_joined 119 = .ok (.iload_n 2, 1) := by decide +kernel
theorem dC_Frm_joined_120 : decode cC_Frm_joined 120 = .ok (.iload_n 3, 1) := by decide +kernel
theorem dC_Frm_joined_121 : decode cC_Frm_joined 121 = .ok (.isub, 1) := by decide +kernel
theorem dC_Frm_joined_122 : decode cC_Frm_joined 122 = .ok (.ireturn, 1) := by decide +kernel
theorem dC_Frm_joined_123 : decode cC_Frm_joined 123 = .ok (.iload_n 2, 1) := by decide +kernel
theorem dC_Frm_joined_124 : decode cC_Frm_joined 124 = .ok (.iload_n 3, 1) := by decide +kernel
theorem dC_Frm_joined_125 : decode cC_Frm_joined 125 = .ok (.ishl, 1) := by decide +kernel
theorem dC_Frm_joined_126 : decode cC_Frm_joined 126 = .ok (.ireturn, 1) := by decide +kernel
theorem dC_Frm_joined_127 : decode cC_Frm_joined 127 = .ok (.iload_n 2, 1) := by decide +kernel
theorem dC_Frm_joined_128 : decode cC_Frm_joined 128 = .ok (.iload_n 3, 1) := by decide +kernel
theorem dC_Frm_joined_129 : decode cC_Frm_joined 129 = .ok (.ishr, 1) := by decide +kernel
theorem dC_Frm_joined_130 : decode cC_Frm_joined 130 = .ok (.ireturn, 1) := by decide +kernel
theorem dC_Frm_joined_131 : decode cC_Frm_joined 131 = .ok (.iload_n 2, 1) := by decide +kernel
theorem dC_Frm_joined_132 : decode cC_Frm_joined 132 = .ok (.iload_n 3, 1) := by decide +kernel
theorem dC_Frm_joined_133 : decode cC_Frm_joined 133 = .ok (.iand, 1) := by decide +kernel
theorem dC_Frm_joined_134 : decode cC_Frm_joined 134 = .ok (.ireturn, 1) := by decide +kernel
theorem dC_Frm_joined_135 : decode cC_Frm_joined 135 = .ok (.iload_n 2, 1) := by decide +kernel
theorem dC_Frm_joined_136 : decode cC_Frm_joined 136 = .ok (.iload_n 3, 1) := by decide +kernel
theorem dC_Frm_joined_137 : decode cC_Frm_joined 137 = .ok (.ixor, 1) := by decide +kernel
theorem dC_Frm_joined_138 : decode cC_Frm_joined 138 = .ok (.ireturn, 1) := by decide +kernel
theorem dC_Frm_joined_139 : decode cC_Frm_joined 139 = .ok (.iload_n 2, 1) := by decide +kernel
theorem dC_Frm_joined_140 : decode cC_Frm_joined 140 = .ok (.iload_n 3, 1) := by decide +kernel
theorem dC_Frm_joined_141 : decode cC_Frm_joined 141 = .ok (.ior, 1) := by decide +kernel
theorem dC_Frm_joined_142 : decode cC_Frm_joined 142 = .ok (.ireturn, 1) := by decide +kernel
abbrev cC_Frm_settleSigns : ByteArray := prog_4_method_8_code
def yC_Frm_settleSigns : MethodName := ⟨R_Frm, "settleSigns", "(I)V"⟩
theorem dC_Frm_settleSigns_0 : decode cC_Frm_settleSigns 0 = .ok (.aload_n 0, 1) := by decide +kernel
theorem dC_Frm_settleSigns_1 : decode cC_Frm_settleSigns 1 = .ok (.getfield 29, 3) := by decide +kernel
theorem dC_Frm_settleSigns_4 : decode cC_Frm_settleSigns 4 = .ok (.getfield 63, 3) := by decide +kernel
theorem dC_Frm_settleSigns_7 : decode cC_Frm_settleSigns 7 = .ok (.istore_n 2, 1) := by decide +kernel
theorem dC_Frm_settleSigns_8 : decode cC_Frm_settleSigns 8 = .ok (.iload_n 2, 1) := by decide +kernel
theorem dC_Frm_settleSigns_9 : decode cC_Frm_settleSigns 9 = .ok (.ifCond .le (55), 3) := by decide +kernel
theorem dC_Frm_settleSigns_12 : decode cC_Frm_settleSigns 12 = .ok (.aload_n 0, 1) := by decide +kernel
theorem dC_Frm_settleSigns_13 : decode cC_Frm_settleSigns 13 = .ok (.getfield 29, 3) := by decide +kernel
theorem dC_Frm_settleSigns_16 : decode cC_Frm_settleSigns 16 = .ok (.iload_n 2, 1) := by decide +kernel
theorem dC_Frm_settleSigns_17 : decode cC_Frm_settleSigns 17 = .ok (.iconst (1), 1) := by decide +kernel
theorem dC_Frm_settleSigns_18 : decode cC_Frm_settleSigns 18 = .ok (.isub, 1) := by decide +kernel
theorem dC_Frm_settleSigns_19 : decode cC_Frm_settleSigns 19 = .ok (.invokevirtual 110, 3) := by decide +kernel
theorem dC_Frm_settleSigns_22 : decode cC_Frm_settleSigns 22 = .ok (.istore_n 3, 1) := by decide +kernel
theorem dC_Frm_settleSigns_23 : decode cC_Frm_settleSigns 23 = .ok (.iload_n 3, 1) := by decide +kernel
theorem dC_Frm_settleSigns_24 : decode cC_Frm_settleSigns 24 = .ok (.invokestatic 90, 3) := by decide +kernel
theorem dC_Frm_settleSigns_27 : decode cC_Frm_settleSigns 27 = .ok (.iload_n 1, 1) := by decide +kernel
theorem dC_Frm_settleSigns_28 : decode cC_Frm_settleSigns 28 = .ok (.if_icmp .ge (4), 3) := by decide +kernel
theorem dC_Frm_settleSigns_31 : decode cC_Frm_settleSigns 31 = .ok (.return_, 1) := by decide +kernel
theorem dC_Frm_settleSigns_32 : decode cC_Frm_settleSigns 32 = .ok (.aload_n 0, 1) := by decide +kernel
theorem dC_Frm_settleSigns_33 : decode cC_Frm_settleSigns 33 = .ok (.getfield 22, 3) := by decide +kernel
theorem dC_Frm_settleSigns_36 : decode cC_Frm_settleSigns 36 = .ok (.iload_n 3, 1) := by decide +kernel
theorem dC_Frm_settleSigns_37 : decode cC_Frm_settleSigns 37 = .ok (.invokevirtual 93, 3) := by decide +kernel
theorem dC_Frm_settleSigns_40 : decode cC_Frm_settleSigns 40 = .ok (.aload_n 0, 1) := by decide +kernel
theorem dC_Frm_settleSigns_41 : decode cC_Frm_settleSigns 41 = .ok (.getfield 26, 3) := by decide +kernel
theorem dC_Frm_settleSigns_44 : decode cC_Frm_settleSigns 44 = .ok (.iconst (0), 1) := by decide +kernel
theorem dC_Frm_settleSigns_45 : decode cC_Frm_settleSigns 45 = .ok (.invokevirtual 93, 3) := by decide +kernel
theorem dC_Frm_settleSigns_48 : decode cC_Frm_settleSigns 48 = .ok (.aload_n 0, 1) := by decide +kernel
theorem dC_Frm_settleSigns_49 : decode cC_Frm_settleSigns 49 = .ok (.getfield 29, 3) := by decide +kernel
theorem dC_Frm_settleSigns_52 : decode cC_Frm_settleSigns 52 = .ok (.iload_n 2, 1) := by decide +kernel
theorem dC_Frm_settleSigns_53 : decode cC_Frm_settleSigns 53 = .ok (.iconst (1), 1) := by decide +kernel
theorem dC_Frm_settleSigns_54 : decode cC_Frm_settleSigns 54 = .ok (.isub, 1) := by decide +kernel
theorem dC_Frm_settleSigns_55 : decode cC_Frm_settleSigns 55 = .ok (.invokevirtual 66, 3) := by decide +kernel
theorem dC_Frm_settleSigns_58 : decode cC_Frm_settleSigns 58 = .ok (.iinc 2 (-1), 3) := by decide +kernel
theorem dC_Frm_settleSigns_61 : decode cC_Frm_settleSigns 61 = .ok (.goto (-53), 3) := by decide +kernel
theorem dC_Frm_settleSigns_64 : decode cC_Frm_settleSigns 64 = .ok (.return_, 1) := by decide +kernel
abbrev cC_Frm_takeOperand : ByteArray := prog_4_method_6_code
def yC_Frm_takeOperand : MethodName := ⟨R_Frm, "takeOperand", "(I)Z"⟩
theorem dC_Frm_takeOperand_0 : decode cC_Frm_takeOperand 0 = .ok (.iload_n 1, 1) := by decide +kernel
theorem dC_Frm_takeOperand_1 : decode cC_Frm_takeOperand 1 = .ok (.istore_n 2, 1) := by decide +kernel
theorem dC_Frm_takeOperand_2 : decode cC_Frm_takeOperand 2 = .ok (.aload_n 0, 1) := by decide +kernel
theorem dC_Frm_takeOperand_3 : decode cC_Frm_takeOperand 3 = .ok (.getfield 51, 3) := by decide +kernel
theorem dC_Frm_takeOperand_6 : decode cC_Frm_takeOperand 6 = .ok (.iconst (0), 1) := by decide +kernel
theorem dC_Frm_takeOperand_7 : decode cC_Frm_takeOperand 7 = .ok (.invokevirtual 99, 3) := by decide +kernel
theorem dC_Frm_takeOperand_10 : decode cC_Frm_takeOperand 10 = .ok (.istore_n 3, 1) := by decide +kernel
theorem dC_Frm_takeOperand_11 : decode cC_Frm_takeOperand 11 = .ok (.iload_n 1, 1) := by decide +kernel
theorem dC_Frm_takeOperand_12 : decode cC_Frm_takeOperand 12 = .ok (.lookupswitch (206) #[(2, 73), (3, 68), (4, 68), (5, 130), (40, 186), (45, 164), (126, 175)], 68) := by decide +kernel
theorem dC_Frm_takeOperand_80 : decode cC_Frm_takeOperand 80 = .ok (.iconst (3), 1) := by decide +kernel
theorem dC_Frm_takeOperand_81 : decode cC_Frm_takeOperand 81 = .ok (.istore_n 2, 1) := by decide +kernel
theorem dC_Frm_takeOperand_82 : decode cC_Frm_takeOperand 82 = .ok (.goto (138), 3) := by decide +kernel
theorem dC_Frm_takeOperand_85 : decode cC_Frm_takeOperand 85 = .ok (.iload_n 3, 1) := by decide +kernel
theorem dC_Frm_takeOperand_86 : decode cC_Frm_takeOperand 86 = .ok (.aload_n 0, 1) := by decide +kernel
theorem dC_Frm_takeOperand_87 : decode cC_Frm_takeOperand 87 = .ok (.getfield 47, 3) := by decide +kernel
theorem dC_Frm_takeOperand_90 : decode cC_Frm_takeOperand 90 = .ok (.getfield 102, 3) := by decide +kernel
theorem dC_Frm_takeOperand_93 : decode cC_Frm_takeOperand 93 = .ok (.if_icmp .ne (8), 3) := by decide +kernel
theorem dC_Frm_takeOperand_96 : decode cC_Frm_takeOperand 96 = .ok (.bipush (7), 2) := by decide +kernel
theorem dC_Frm_takeOperand_98 : decode cC_Frm_takeOperand 98 = .ok (.goto (4), 3) := by decide +kernel
theorem dC_Frm_takeOperand_101 : decode cC_Frm_takeOperand 101 = .ok (.iconst (2), 1) := by decide +kernel
theorem dC_Frm_takeOperand_102 : decode cC_Frm_takeOperand 102 = .ok (.istore_n 2, 1) := by decide +kernel
theorem dC_Frm_takeOperand_103 : decode cC_Frm_takeOperand 103 = .ok (.aload_n 0, 1) := by decide +kernel
theorem dC_Frm_takeOperand_104 : decode cC_Frm_takeOperand 104 = .ok (.aload_n 0, 1) := by decide +kernel
theorem dC_Frm_takeOperand_105 : decode cC_Frm_takeOperand 105 = .ok (.getfield 9, 3) := by decide +kernel
theorem dC_Frm_takeOperand_108 : decode cC_Frm_takeOperand 108 = .ok (.ifCond .eq (27), 3) := by decide +kernel
theorem dC_Frm_takeOperand_111 : decode cC_Frm_takeOperand 111 = .ok (.iload_n 2, 1) := by decide +kernel
theorem dC_Frm_takeOperand_112 : decode cC_Frm_takeOperand 112 = .ok (.iconst (2), 1) := by decide +kernel
theorem dC_Frm_takeOperand_113 : decode cC_Frm_takeOperand 113 = .ok (.if_icmp .ne (22), 3) := by decide +kernel
theorem dC_Frm_takeOperand_116 : decode cC_Frm_takeOperand 116 = .ok (.aload_n 0, 1) := by decide +kernel
theorem dC_Frm_takeOperand_117 : decode cC_Frm_takeOperand 117 = .ok (.getfield 47, 3) := by decide +kernel
theorem dC_Frm_takeOperand_120 : decode cC_Frm_takeOperand 120 = .ok (.getfield 107, 3) := by decide +kernel
theorem dC_Frm_takeOperand_123 : decode cC_Frm_takeOperand 123 = .ok (.iload_n 3, 1) := by decide +kernel
theorem dC_Frm_takeOperand_124 : decode cC_Frm_takeOperand 124 = .ok (.invokevirtual 110, 3) := by decide +kernel
theorem dC_Frm_takeOperand_127 : decode cC_Frm_takeOperand 127 = .ok (.iconst (2), 1) := by decide +kernel
theorem dC_Frm_takeOperand_128 : decode cC_Frm_takeOperand 128 = .ok (.if_icmp .ne (7), 3) := by decide +kernel
theorem dC_Frm_takeOperand_131 : decode cC_Frm_takeOperand 131 = .ok (.iconst (1), 1) := by decide +kernel
theorem dC_Frm_takeOperand_132 : decode cC_Frm_takeOperand 132 = .ok (.goto (4), 3) := by decide +kernel
theorem dC_Frm_takeOperand_135 : decode cC_Frm_takeOperand 135 = .ok (.iconst (0), 1) := by decide +kernel
theorem dC_Frm_takeOperand_136 : decode cC_Frm_takeOperand 136 = .ok (.putfield 9, 3) := by decide +kernel
theorem dC_Frm_takeOperand_139 : decode cC_Frm_takeOperand 139 = .ok (.goto (81), 3) := by decide +kernel
theorem dC_Frm_takeOperand_142 : decode cC_Frm_takeOperand 142 = .ok (.iload_n 3, 1) := by decide +kernel
theorem dC_Frm_takeOperand_143 : decode cC_Frm_takeOperand 143 = .ok (.iconst (1), 1) := by decide +kernel
theorem dC_Frm_takeOperand_144 : decode cC_Frm_takeOperand 144 = .ok (.iand, 1) := by decide +kernel
theorem dC_Frm_takeOperand_145 : decode cC_Frm_takeOperand 145 = .ok (.iconst (1), 1) := by decide +kernel
theorem dC_Frm_takeOperand_146 : decode cC_Frm_takeOperand 146 = .ok (.if_icmp .ne (8), 3) := by decide +kernel
theorem dC_Frm_takeOperand_149 : decode cC_Frm_takeOperand 149 = .ok (.bipush (9), 2) := by decide +kernel
theorem dC_Frm_takeOperand_151 : decode cC_Frm_takeOperand 151 = .ok (.goto (5), 3) := by decide +kernel
theorem dC_Frm_takeOperand_154 : decode cC_Frm_takeOperand 154 = .ok (.bipush (8), 2) := by decide +kernel
theorem dC_Frm_takeOperand_156 : decode cC_Frm_takeOperand 156 = .ok (.istore_n 2, 1) := by decide +kernel
theorem dC_Frm_takeOperand_157 : decode cC_Frm_takeOperand 157 = .ok (.aload_n 0, 1) := by decide +kernel
theorem dC_Frm_takeOperand_158 : decode cC_Frm_takeOperand 158 = .ok (.getfield 55, 3) := by decide +kernel
theorem dC_Frm_takeOperand_161 : decode cC_Frm_takeOperand 161 = .ok (.iload_n 3, 1) := by decide +kernel
theorem dC_Frm_takeOperand_162 : decode cC_Frm_takeOperand 162 = .ok (.iconst (1), 1) := by decide +kernel
theorem dC_Frm_takeOperand_163 : decode cC_Frm_takeOperand 163 = .ok (.ishr, 1) := by decide +kernel
theorem dC_Frm_takeOperand_164 : decode cC_Frm_takeOperand 164 = .ok (.invokevirtual 113, 3) := by decide +kernel
theorem dC_Frm_takeOperand_167 : decode cC_Frm_takeOperand 167 = .ok (.istore_n 3, 1) := by decide +kernel
theorem dC_Frm_takeOperand_168 : decode cC_Frm_takeOperand 168 = .ok (.aload_n 0, 1) := by decide +kernel
theorem dC_Frm_takeOperand_169 : decode cC_Frm_takeOperand 169 = .ok (.iconst (0), 1) := by decide +kernel
theorem dC_Frm_takeOperand_170 : decode cC_Frm_takeOperand 170 = .ok (.putfield 9, 3) := by decide +kernel
theorem dC_Frm_takeOperand_173 : decode cC_Frm_takeOperand 173 = .ok (.goto (47), 3) := by decide +kernel
theorem dC_Frm_takeOperand_176 : decode cC_Frm_takeOperand 176 = .ok (.aload_n 0, 1) := by decide +kernel
theorem dC_Frm_takeOperand_177 : decode cC_Frm_takeOperand 177 = .ok (.getfield 29, 3) := by decide +kernel
theorem dC_Frm_takeOperand_180 : decode cC_Frm_takeOperand 180 = .ok (.bipush (10), 2) := by decide +kernel
theorem dC_Frm_takeOperand_182 : decode cC_Frm_takeOperand 182 = .ok (.invokevirtual 93, 3) := by decide +kernel
theorem dC_Frm_takeOperand_185 : decode cC_Frm_takeOperand 185 = .ok (.iconst (1), 1) := by decide +kernel
theorem dC_Frm_takeOperand_186 : decode cC_Frm_takeOperand 186 = .ok (.ireturn, 1) := by decide +kernel
theorem dC_Frm_takeOperand_187 : decode cC_Frm_takeOperand 187 = .ok (.aload_n 0, 1) := by decide +kernel
theorem dC_Frm_takeOperand_188 : decode cC_Frm_takeOperand 188 = .ok (.getfield 29, 3) := by decide +kernel
theorem dC_Frm_takeOperand_191 : decode cC_Frm_takeOperand 191 = .ok (.bipush (11), 2) := by decide +kernel
theorem dC_Frm_takeOperand_193 : decode cC_Frm_takeOperand 193 = .ok (.invokevirtual 93, 3) := by decide +kernel
theorem dC_Frm_takeOperand_196 : decode cC_Frm_takeOperand 196 = .ok (.iconst (1), 1) := by decide +kernel
theorem dC_Frm_takeOperand_197 : decode cC_Frm_takeOperand 197 = .ok (.ireturn, 1) := by decide +kernel
theorem dC_Frm_takeOperand_198 : decode cC_Frm_takeOperand 198 = .ok (.aload_n 0, 1) := by decide +kernel
theorem dC_Frm_takeOperand_199 : decode cC_Frm_takeOperand 199 = .ok (.getfield 29, 3) := by decide +kernel
theorem dC_Frm_takeOperand_202 : decode cC_Frm_takeOperand 202 = .ok (.iload_n 1, 1) := by decide +kernel
theorem dC_Frm_takeOperand_203 : decode cC_Frm_takeOperand 203 = .ok (.invokevirtual 93, 3) := by decide +kernel
theorem dC_Frm_takeOperand_206 : decode cC_Frm_takeOperand 206 = .ok (.aload_n 0, 1) := by decide +kernel
theorem dC_Frm_takeOperand_207 : decode cC_Frm_takeOperand 207 = .ok (.dup, 1) := by decide +kernel
theorem dC_Frm_takeOperand_208 : decode cC_Frm_takeOperand 208 = .ok (.getfield 38, 3) := by decide +kernel
theorem dC_Frm_takeOperand_211 : decode cC_Frm_takeOperand 211 = .ok (.iconst (1), 1) := by decide +kernel
theorem dC_Frm_takeOperand_212 : decode cC_Frm_takeOperand 212 = .ok (.iadd, 1) := by decide +kernel
theorem dC_Frm_takeOperand_213 : decode cC_Frm_takeOperand 213 = .ok (.putfield 38, 3) := by decide +kernel
theorem dC_Frm_takeOperand_216 : decode cC_Frm_takeOperand 216 = .ok (.iconst (1), 1) := by decide +kernel
theorem dC_Frm_takeOperand_217 : decode cC_Frm_takeOperand 217 = .ok (.ireturn, 1) := by decide +kernel
theorem dC_Frm_takeOperand_218 : decode cC_Frm_takeOperand 218 = .ok (.iconst (0), 1) := by decide +kernel
theorem dC_Frm_takeOperand_219 : decode cC_Frm_takeOperand 219 = .ok (.ireturn, 1) := by decide +kernel
theorem dC_Frm_takeOperand_220 : decode cC_Frm_takeOperand 220 = .ok (.aload_n 0, 1) := by decide +kernel
theorem dC_Frm_takeOperand_221 : decode cC_Frm_takeOperand 221 = .ok (.getfield 22, 3) := by decide +kernel
theorem dC_Frm_takeOperand_224 : decode cC_Frm_takeOperand 224 = .ok (.iload_n 2, 1) := by decide +kernel
theorem dC_Frm_takeOperand_225 : decode cC_Frm_takeOperand 225 = .ok (.invokevirtual 93, 3) := by decide +kernel
theorem dC_Frm_takeOperand_228 : decode cC_Frm_takeOperand 228 = .ok (.aload_n 0, 1) := by decide +kernel
theorem dC_Frm_takeOperand_229 : decode cC_Frm_takeOperand 229 = .ok (.getfield 26, 3) := by decide +kernel
theorem dC_Frm_takeOperand_232 : decode cC_Frm_takeOperand 232 = .ok (.iload_n 3, 1) := by decide +kernel
theorem dC_Frm_takeOperand_233 : decode cC_Frm_takeOperand 233 = .ok (.invokevirtual 93, 3) := by decide +kernel
theorem dC_Frm_takeOperand_236 : decode cC_Frm_takeOperand 236 = .ok (.aload_n 0, 1) := by decide +kernel
theorem dC_Frm_takeOperand_237 : decode cC_Frm_takeOperand 237 = .ok (.iconst (0), 1) := by decide +kernel
theorem dC_Frm_takeOperand_238 : decode cC_Frm_takeOperand 238 = .ok (.putfield 35, 3) := by decide +kernel
theorem dC_Frm_takeOperand_241 : decode cC_Frm_takeOperand 241 = .ok (.iconst (1), 1) := by decide +kernel
theorem dC_Frm_takeOperand_242 : decode cC_Frm_takeOperand 242 = .ok (.ireturn, 1) := by decide +kernel
abbrev cC_Frm_takePart : ByteArray := prog_4_method_7_code
def yC_Frm_takePart : MethodName := ⟨R_Frm, "takePart", "()Z"⟩
theorem dC_Frm_takePart_0 : decode cC_Frm_takePart 0 = .ok (.aload_n 0, 1) := by decide +kernel
theorem dC_Frm_takePart_1 : decode cC_Frm_takePart 1 = .ok (.getfield 51, 3) := by decide +kernel
theorem dC_Frm_takePart_4 : decode cC_Frm_takePart 4 = .ok (.iconst (1), 1) := by decide +kernel
theorem dC_Frm_takePart_5 : decode cC_Frm_takePart 5 = .ok (.invokevirtual 75, 3) := by decide +kernel
theorem dC_Frm_takePart_8 : decode cC_Frm_takePart 8 = .ok (.iconst (2), 1) := by decide +kernel
theorem dC_Frm_takePart_9 : decode cC_Frm_takePart 9 = .ok (.if_icmp .ne (14), 3) := by decide +kernel
theorem dC_Frm_takePart_12 : decode cC_Frm_takePart 12 = .ok (.aload_n 0, 1) := by decide +kernel
theorem dC_Frm_takePart_13 : decode cC_Frm_takePart 13 = .ok (.getfield 51, 3) := by decide +kernel
theorem dC_Frm_takePart_16 : decode cC_Frm_takePart 16 = .ok (.iconst (1), 1) := by decide +kernel
theorem dC_Frm_takePart_17 : decode cC_Frm_takePart 17 = .ok (.invokevirtual 99, 3) := by decide +kernel
theorem dC_Frm_takePart_20 : decode cC_Frm_takePart 20 = .ok (.goto (4), 3) := by decide +kernel
theorem dC_Frm_takePart_23 : decode cC_Frm_takePart 23 = .ok (.iconst (-1), 1) := by decide +kernel
theorem dC_Frm_takePart_24 : decode cC_Frm_takePart 24 = .ok (.istore_n 1, 1) := by decide +kernel
theorem dC_Frm_takePart_25 : decode cC_Frm_takePart 25 = .ok (.iload_n 1, 1) := by decide +kernel
theorem dC_Frm_takePart_26 : decode cC_Frm_takePart 26 = .ok (.aload_n 0, 1) := by decide +kernel
theorem dC_Frm_takePart_27 : decode cC_Frm_takePart 27 = .ok (.getfield 47, 3) := by decide +kernel
theorem dC_Frm_takePart_30 : decode cC_Frm_takePart 30 = .ok (.getfield 118, 3) := by decide +kernel
theorem dC_Frm_takePart_33 : decode cC_Frm_takePart 33 = .ok (.if_icmp .eq (14), 3) := by decide +kernel
theorem dC_Frm_takePart_36 : decode cC_Frm_takePart 36 = .ok (.iload_n 1, 1) := by decide +kernel
theorem dC_Frm_takePart_37 : decode cC_Frm_takePart 37 = .ok (.aload_n 0, 1) := by decide +kernel
theorem dC_Frm_takePart_38 : decode cC_Frm_takePart 38 = .ok (.getfield 47, 3) := by decide +kernel
theorem dC_Frm_takePart_41 : decode cC_Frm_takePart 41 = .ok (.getfield 121, 3) := by decide +kernel
theorem dC_Frm_takePart_44 : decode cC_Frm_takePart 44 = .ok (.if_icmp .ne (16), 3) := by decide +kernel
theorem dC_Frm_takePart_47 : decode cC_Frm_takePart 47 = .ok (.aload_n 0, 1) := by decide +kernel
theorem dC_Frm_takePart_48 : decode cC_Frm_takePart 48 = .ok (.getfield 51, 3) := by decide +kernel
theorem dC_Frm_takePart_51 : decode cC_Frm_takePart 51 = .ok (.iconst (2), 1) := by decide +kernel
theorem dC_Frm_takePart_52 : decode cC_Frm_takePart 52 = .ok (.invokevirtual 75, 3) := by decide +kernel
theorem dC_Frm_takePart_55 : decode cC_Frm_takePart 55 = .ok (.bipush (40), 2) := by decide +kernel
theorem dC_Frm_takePart_57 : decode cC_Frm_takePart 57 = .ok (.if_icmp .eq (5), 3) := by decide +kernel
theorem dC_Frm_takePart_60 : decode cC_Frm_takePart 60 = .ok (.iconst (0), 1) := by decide +kernel
theorem dC_Frm_takePart_61 : decode cC_Frm_takePart 61 = .ok (.ireturn, 1) := by decide +kernel
theorem dC_Frm_takePart_62 : decode cC_Frm_takePart 62 = .ok (.aload_n 0, 1) := by decide +kernel
theorem dC_Frm_takePart_63 : decode cC_Frm_takePart 63 = .ok (.getfield 29, 3) := by decide +kernel
theorem dC_Frm_takePart_66 : decode cC_Frm_takePart 66 = .ok (.iload_n 1, 1) := by decide +kernel
theorem dC_Frm_takePart_67 : decode cC_Frm_takePart 67 = .ok (.aload_n 0, 1) := by decide +kernel
theorem dC_Frm_takePart_68 : decode cC_Frm_takePart 68 = .ok (.getfield 47, 3) := by decide +kernel
theorem dC_Frm_takePart_71 : decode cC_Frm_takePart 71 = .ok (.getfield 118, 3) := by decide +kernel
theorem dC_Frm_takePart_74 : decode cC_Frm_takePart 74 = .ok (.if_icmp .ne (8), 3) := by decide +kernel
theorem dC_Frm_takePart_77 : decode cC_Frm_takePart 77 = .ok (.bipush (12), 2) := by decide +kernel
theorem dC_Frm_takePart_79 : decode cC_Frm_takePart 79 = .ok (.goto (5), 3) := by decide +kernel
theorem dC_Frm_takePart_82 : decode cC_Frm_takePart 82 = .ok (.bipush (13), 2) := by decide +kernel
theorem dC_Frm_takePart_84 : decode cC_Frm_takePart 84 = .ok (.invokevirtual 93, 3) := by decide +kernel
theorem dC_Frm_takePart_87 : decode cC_Frm_takePart 87 = .ok (.aload_n 0, 1) := by decide +kernel
theorem dC_Frm_takePart_88 : decode cC_Frm_takePart 88 = .ok (.getfield 29, 3) := by decide +kernel
theorem dC_Frm_takePart_91 : decode cC_Frm_takePart 91 = .ok (.bipush (40), 2) := by decide +kernel
theorem dC_Frm_takePart_93 : decode cC_Frm_takePart 93 = .ok (.invokevirtual 93, 3) := by decide +kernel
theorem dC_Frm_takePart_96 : decode cC_Frm_takePart 96 = .ok (.aload_n 0, 1) := by decide +kernel
theorem dC_Frm_takePart_97 : decode cC_Frm_takePart 97 = .ok (.dup, 1) := by decide +kernel
theorem dC_Frm_takePart_98 : decode cC_Frm_takePart 98 = .ok (.getfield 38, 3) := by decide +kernel
theorem dC_Frm_takePart_101 : decode cC_Frm_takePart 101 = .ok (.iconst (1), 1) := by decide +kernel
theorem dC_Frm_takePart_102 : decode cC_Frm_takePart 102 = .ok (.iadd, 1) := by decide +kernel
theorem dC_Frm_takePart_103 : decode cC_Frm_takePart 103 = .ok (.putfield 38, 3) := by decide +kernel
theorem dC_Frm_takePart_106 : decode cC_Frm_takePart 106 = .ok (.aload_n 0, 1) := by decide +kernel
theorem dC_Frm_takePart_107 : decode cC_Frm_takePart 107 = .ok (.getfield 51, 3) := by decide +kernel
theorem dC_Frm_takePart_110 : decode cC_Frm_takePart 110 = .ok (.iconst (2), 1) := by decide +kernel
theorem dC_Frm_takePart_111 : decode cC_Frm_takePart 111 = .ok (.invokevirtual 96, 3) := by decide +kernel
theorem dC_Frm_takePart_114 : decode cC_Frm_takePart 114 = .ok (.iconst (1), 1) := by decide +kernel
theorem dC_Frm_takePart_115 : decode cC_Frm_takePart 115 = .ok (.ireturn, 1) := by decide +kernel
abbrev cC_Frm_compile : ByteArray := prog_4_method_5_code
def yC_Frm_compile : MethodName := ⟨R_Frm, "compile", "()Z"⟩
theorem dC_Frm_compile_0 : decode cC_Frm_compile 0 = .ok (.aload_n 0, 1) := by decide +kernel
theorem dC_Frm_compile_1 : decode cC_Frm_compile 1 = .ok (.iconst (1), 1) := by decide +kernel
theorem dC_Frm_compile_2 : decode cC_Frm_compile 2 = .ok (.putfield 9, 3) := by decide +kernel
theorem dC_Frm_compile_5 : decode cC_Frm_compile 5 = .ok (.aload_n 0, 1) := by decide +kernel
theorem dC_Frm_compile_6 : decode cC_Frm_compile 6 = .ok (.iconst (1), 1) := by decide +kernel
theorem dC_Frm_compile_7 : decode cC_Frm_compile 7 = .ok (.putfield 35, 3) := by decide +kernel
theorem dC_Frm_compile_10 : decode cC_Frm_compile 10 = .ok (.aload_n 0, 1) := by decide +kernel
theorem dC_Frm_compile_11 : decode cC_Frm_compile 11 = .ok (.iconst (0), 1) := by decide +kernel
theorem dC_Frm_compile_12 : decode cC_Frm_compile 12 = .ok (.putfield 38, 3) := by decide +kernel
theorem dC_Frm_compile_15 : decode cC_Frm_compile 15 = .ok (.aload_n 0, 1) := by decide +kernel
theorem dC_Frm_compile_16 : decode cC_Frm_compile 16 = .ok (.getfield 29, 3) := by decide +kernel
theorem dC_Frm_compile_19 : decode cC_Frm_compile 19 = .ok (.iconst (0), 1) := by decide +kernel
theorem dC_Frm_compile_20 : decode cC_Frm_compile 20 = .ok (.invokevirtual 66, 3) := by decide +kernel
theorem dC_Frm_compile_23 : decode cC_Frm_compile 23 = .ok (.iconst (1), 1) := by decide +kernel
theorem dC_Frm_compile_24 : decode cC_Frm_compile 24 = .ok (.istore_n 1, 1) := by decide +kernel
theorem dC_Frm_compile_25 : decode cC_Frm_compile 25 = .ok (.aload_n 0, 1) := by decide +kernel
theorem dC_Frm_compile_26 : decode cC_Frm_compile 26 = .ok (.getfield 51, 3) := by decide +kernel
theorem dC_Frm_compile_29 : decode cC_Frm_compile 29 = .ok (.invokevirtual 69, 3) := by decide +kernel
theorem dC_Frm_compile_32 : decode cC_Frm_compile 32 = .ok (.istore_n 2, 1) := by decide +kernel
theorem dC_Frm_compile_33 : decode cC_Frm_compile 33 = .ok (.iload_n 2, 1) := by decide +kernel
theorem dC_Frm_compile_34 : decode cC_Frm_compile 34 = .ok (.ifCond .le (147), 3) := by decide +kernel
theorem dC_Frm_compile_37 : decode cC_Frm_compile 37 = .ok (.iload_n 1, 1) := by decide +kernel
theorem dC_Frm_compile_38 : decode cC_Frm_compile 38 = .ok (.ifCond .eq (143), 3) := by decide +kernel
theorem dC_Frm_compile_41 : decode cC_Frm_compile 41 = .ok (.aload_n 0, 1) := by decide +kernel
theorem dC_Frm_compile_42 : decode cC_Frm_compile 42 = .ok (.getfield 51, 3) := by decide +kernel
theorem dC_Frm_compile_45 : decode cC_Frm_compile 45 = .ok (.iconst (0), 1) := by decide +kernel
theorem dC_Frm_compile_46 : decode cC_Frm_compile 46 = .ok (.invokevirtual 75, 3) := by decide +kernel
theorem dC_Frm_compile_49 : decode cC_Frm_compile 49 = .ok (.istore_n 3, 1) := by decide +kernel
theorem dC_Frm_compile_50 : decode cC_Frm_compile 50 = .ok (.aload_n 0, 1) := by decide +kernel
theorem dC_Frm_compile_51 : decode cC_Frm_compile 51 = .ok (.getfield 35, 3) := by decide +kernel
theorem dC_Frm_compile_54 : decode cC_Frm_compile 54 = .ok (.ifCond .eq (29), 3) := by decide +kernel
theorem dC_Frm_compile_57 : decode cC_Frm_compile 57 = .ok (.iload_n 3, 1) := by decide +kernel
theorem dC_Frm_compile_58 : decode cC_Frm_compile 58 = .ok (.bipush (37), 2) := by decide +kernel
theorem dC_Frm_compile_60 : decode cC_Frm_compile 60 = .ok (.if_icmp .ne (13), 3) := by decide +kernel
theorem dC_Frm_compile_63 : decode cC_Frm_compile 63 = .ok (.aload_n 0, 1) := by decide +kernel
theorem dC_Frm_compile_64 : decode cC_Frm_compile 64 = .ok (.invokevirtual 79, 3) := by decide +kernel
theorem dC_Frm_compile_67 : decode cC_Frm_compile 67 = .ok (.ifCond .eq (14), 3) := by decide +kernel
theorem dC_Frm_compile_70 : decode cC_Frm_compile 70 = .ok (.goto (93), 3) := by decide +kernel
theorem dC_Frm_compile_73 : decode cC_Frm_compile 73 = .ok (.aload_n 0, 1) := by decide +kernel
theorem dC_Frm_compile_74 : decode cC_Frm_compile 74 = .ok (.iload_n 3, 1) := by decide +kernel
theorem dC_Frm_compile_75 : decode cC_Frm_compile 75 = .ok (.invokevirtual 83, 3) := by decide +kernel
theorem dC_Frm_compile_78 : decode cC_Frm_compile 78 = .ok (.ifCond .ne (85), 3) := by decide +kernel
theorem dC_Frm_compile_81 : decode cC_Frm_compile 81 = .ok (.iconst (0), 1) := by decide +kernel
theorem dC_Frm_compile_82 : decode cC_Frm_compile 82 = .ok (.ireturn, 1) := by decide +kernel
theorem dC_Frm_compile_83 : decode cC_Frm_compile 83 = .ok (.iload_n 3, 1) := by decide +kernel
theorem dC_Frm_compile_84 : decode cC_Frm_compile 84 = .ok (.bipush (41), 2) := by decide +kernel
theorem dC_Frm_compile_86 : decode cC_Frm_compile 86 = .ok (.if_icmp .ne (44), 3) := by decide +kernel
theorem dC_Frm_compile_89 : decode cC_Frm_compile 89 = .ok (.aload_n 0, 1) := by decide +kernel
theorem dC_Frm_compile_90 : decode cC_Frm_compile 90 = .ok (.getfield 38, 3) := by decide +kernel
theorem dC_Frm_compile_93 : decode cC_Frm_compile 93 = .ok (.ifCond .le (37), 3) := by decide +kernel
theorem dC_Frm_compile_96 : decode cC_Frm_compile 96 = .ok (.aload_n 0, 1) := by decide +kernel
theorem dC_Frm_compile_97 : decode cC_Frm_compile 97 = .ok (.iconst (1), 1) := by decide +kernel
theorem dC_Frm_compile_98 : decode cC_Frm_compile 98 = .ok (.invokevirtual 87, 3) := by decide +kernel
theorem dC_Frm_compile_101 : decode cC_Frm_compile 101 = .ok (.aload_n 0, 1) := by decide +kernel
theorem dC_Frm_compile_102 : decode cC_Frm_compile 102 = .ok (.getfield 29, 3) := by decide +kernel
theorem dC_Frm_compile_105 : decode cC_Frm_compile 105 = .ok (.aload_n 0, 1) := by decide +kernel
theorem dC_Frm_compile_106 : decode cC_Frm_compile 106 = .ok (.getfield 29, 3) := by decide +kernel
theorem dC_Frm_compile_109 : decode cC_Frm_compile 109 = .ok (.getfield 63, 3) := by decide +kernel
theorem dC_Frm_compile_112 : decode cC_Frm_compile 112 = .ok (.iconst (1), 1) := by decide +kernel
theorem dC_Frm_compile_113 : decode cC_Frm_compile 113 = .ok (.isub, 1) := by decide +kernel
theorem dC_Frm_compile_114 : decode cC_Frm_compile 114 = .ok (.invokevirtual 66, 3) := by decide +kernel
theorem dC_Frm_compile_117 : decode cC_Frm_compile 117 = .ok (.aload_n 0, 1) := by decide +kernel
theorem dC_Frm_compile_118 : decode cC_Frm_compile 118 = .ok (.dup, 1) := by decide +kernel
theorem dC_Frm_compile_119 : decode cC_Frm_compile 119 = .ok (.getfield 38, 3) := by decide +kernel
theorem dC_Frm_compile_122 : decode cC_Frm_compile 122 = .ok (.iconst (1), 1) := by decide +kernel
theorem dC_Frm_compile_123 : decode cC_Frm_compile 123 = .ok (.isub, 1) := by decide +kernel
theorem dC_Frm_compile_124 : decode cC_Frm_compile 124 = .ok (.putfield 38, 3) := by decide +kernel
theorem dC_Frm_compile_127 : decode cC_Frm_compile 127 = .ok (.goto (36), 3) := by decide +kernel
theorem dC_Frm_compile_130 : decode cC_Frm_compile 130 = .ok (.iload_n 3, 1) := by decide +kernel
theorem dC_Frm_compile_131 : decode cC_Frm_compile 131 = .ok (.invokestatic 90, 3) := by decide +kernel
theorem dC_Frm_compile_134 : decode cC_Frm_compile 134 = .ok (.ifCond .le (27), 3) := by decide +kernel
theorem dC_Frm_compile_137 : decode cC_Frm_compile 137 = .ok (.aload_n 0, 1) := by decide +kernel
theorem dC_Frm_compile_138 : decode cC_Frm_compile 138 = .ok (.iload_n 3, 1) := by decide +kernel
theorem dC_Frm_compile_139 : decode cC_Frm_compile 139 = .ok (.invokestatic 90, 3) := by decide +kernel
theorem dC_Frm_compile_142 : decode cC_Frm_compile 142 = .ok (.invokevirtual 87, 3) := by decide +kernel
theorem dC_Frm_compile_145 : decode cC_Frm_compile 145 = .ok (.aload_n 0, 1) := by decide +kernel
theorem dC_Frm_compile_146 : decode cC_Frm_compile 146 = .ok (.getfield 29, 3) := by decide +kernel
theorem dC_Frm_compile_149 : decode cC_Frm_compile 149 = .ok (.iload_n 3, 1) := by decide +kernel
theorem dC_Frm_compile_150 : decode cC_Frm_compile 150 = .ok (.invokevirtual 93, 3) := by decide +kernel
theorem dC_Frm_compile_153 : decode cC_Frm_compile 153 = .ok (.aload_n 0, 1) := by decide +kernel
theorem dC_Frm_compile_154 : decode cC_Frm_compile 154 = .ok (.iconst (1), 1) := by decide +kernel
theorem dC_Frm_compile_155 : decode cC_Frm_compile 155 = .ok (.putfield 35, 3) := by decide +kernel
theorem dC_Frm_compile_158 : decode cC_Frm_compile 158 = .ok (.goto (5), 3) := by decide +kernel
theorem dC_Frm_compile_161 : decode cC_Frm_compile 161 = .ok (.iconst (0), 1) := by decide +kernel
theorem dC_Frm_compile_162 : decode cC_Frm_compile 162 = .ok (.istore_n 1, 1) := by decide +kernel
theorem dC_Frm_compile_163 : decode cC_Frm_compile 163 = .ok (.iload_n 1, 1) := by decide +kernel
theorem dC_Frm_compile_164 : decode cC_Frm_compile 164 = .ok (.ifCond .eq (11), 3) := by decide +kernel
theorem dC_Frm_compile_167 : decode cC_Frm_compile 167 = .ok (.aload_n 0, 1) := by decide +kernel
theorem dC_Frm_compile_168 : decode cC_Frm_compile 168 = .ok (.getfield 51, 3) := by decide +kernel
theorem dC_Frm_compile_171 : decode cC_Frm_compile 171 = .ok (.iconst (1), 1) := by decide +kernel
theorem dC_Frm_compile_172 : decode cC_Frm_compile 172 = .ok (.invokevirtual 96, 3) := by decide +kernel
theorem dC_Frm_compile_175 : decode cC_Frm_compile 175 = .ok (.iinc 2 (-1), 3) := by decide +kernel
theorem dC_Frm_compile_178 : decode cC_Frm_compile 178 = .ok (.goto (-145), 3) := by decide +kernel
theorem dC_Frm_compile_181 : decode cC_Frm_compile 181 = .ok (.aload_n 0, 1) := by decide +kernel
theorem dC_Frm_compile_182 : decode cC_Frm_compile 182 = .ok (.iconst (1), 1) := by decide +kernel
theorem dC_Frm_compile_183 : decode cC_Frm_compile 183 = .ok (.invokevirtual 87, 3) := by decide +kernel
theorem dC_Frm_compile_186 : decode cC_Frm_compile 186 = .ok (.aload_n 0, 1) := by decide +kernel
theorem dC_Frm_compile_187 : decode cC_Frm_compile 187 = .ok (.getfield 35, 3) := by decide +kernel
theorem dC_Frm_compile_190 : decode cC_Frm_compile 190 = .ok (.ifCond .ne (14), 3) := by decide +kernel
theorem dC_Frm_compile_193 : decode cC_Frm_compile 193 = .ok (.aload_n 0, 1) := by decide +kernel
theorem dC_Frm_compile_194 : decode cC_Frm_compile 194 = .ok (.getfield 38, 3) := by decide +kernel
theorem dC_Frm_compile_197 : decode cC_Frm_compile 197 = .ok (.ifCond .ne (7), 3) := by decide +kernel
theorem dC_Frm_compile_200 : decode cC_Frm_compile 200 = .ok (.iconst (1), 1) := by decide +kernel
theorem dC_Frm_compile_201 : decode cC_Frm_compile 201 = .ok (.goto (4), 3) := by decide +kernel
theorem dC_Frm_compile_204 : decode cC_Frm_compile 204 = .ok (.iconst (0), 1) := by decide +kernel
theorem dC_Frm_compile_205 : decode cC_Frm_compile 205 = .ok (.ireturn, 1) := by decide +kernel
abbrev cC_Frm_valueOf : ByteArray := prog_4_method_11_code
def yC_Frm_valueOf : MethodName := ⟨R_Frm, "valueOf", "(I)I"⟩
theorem dC_Frm_valueOf_0 : decode cC_Frm_valueOf 0 = .ok (.aload_n 0, 1) := by decide +kernel
theorem dC_Frm_valueOf_1 : decode cC_Frm_valueOf 1 = .ok (.getfield 47, 3) := by decide +kernel
theorem dC_Frm_valueOf_4 : decode cC_Frm_valueOf 4 = .ok (.getfield 107, 3) := by decide +kernel
theorem dC_Frm_valueOf_7 : decode cC_Frm_valueOf 7 = .ok (.iload_n 1, 1) := by decide +kernel
theorem dC_Frm_valueOf_8 : decode cC_Frm_valueOf 8 = .ok (.invokevirtual 110, 3) := by decide +kernel
theorem dC_Frm_valueOf_11 : decode cC_Frm_valueOf 11 = .ok (.istore_n 2, 1) := by decide +kernel
theorem dC_Frm_valueOf_12 : decode cC_Frm_valueOf 12 = .ok (.aload_n 0, 1) := by decide +kernel
theorem dC_Frm_valueOf_13 : decode cC_Frm_valueOf 13 = .ok (.getfield 47, 3) := by decide +kernel
theorem dC_Frm_valueOf_16 : decode cC_Frm_valueOf 16 = .ok (.getfield 145, 3) := by decide +kernel
theorem dC_Frm_valueOf_19 : decode cC_Frm_valueOf 19 = .ok (.iload_n 1, 1) := by decide +kernel
theorem dC_Frm_valueOf_20 : decode cC_Frm_valueOf 20 = .ok (.invokevirtual 110, 3) := by decide +kernel
theorem dC_Frm_valueOf_23 : decode cC_Frm_valueOf 23 = .ok (.istore_n 3, 1) := by decide +kernel
theorem dC_Frm_valueOf_24 : decode cC_Frm_valueOf 24 = .ok (.iload_n 2, 1) := by decide +kernel
theorem dC_Frm_valueOf_25 : decode cC_Frm_valueOf 25 = .ok (.iconst (1), 1) := by decide +kernel
theorem dC_Frm_valueOf_26 : decode cC_Frm_valueOf 26 = .ok (.if_icmp .ne (12), 3) := by decide +kernel
theorem dC_Frm_valueOf_29 : decode cC_Frm_valueOf 29 = .ok (.aload_n 0, 1) := by decide +kernel
theorem dC_Frm_valueOf_30 : decode cC_Frm_valueOf 30 = .ok (.getfield 55, 3) := by decide +kernel
theorem dC_Frm_valueOf_33 : decode cC_Frm_valueOf 33 = .ok (.iload_n 3, 1) := by decide +kernel
theorem dC_Frm_valueOf_34 : decode cC_Frm_valueOf 34 = .ok (.invokevirtual 127, 3) := by decide +kernel
theorem dC_Frm_valueOf_37 : decode cC_Frm_valueOf 37 = .ok (.ireturn, 1) := by decide +kernel
theorem dC_Frm_valueOf_38 : decode cC_Frm_valueOf 38 = .ok (.aload_n 0, 1) := by decide +kernel
theorem dC_Frm_valueOf_39 : decode cC_Frm_valueOf 39 = .ok (.aload_n 0, 1) := by decide +kernel
theorem dC_Frm_valueOf_40 : decode cC_Frm_valueOf 40 = .ok (.getfield 41, 3) := by decide +kernel
theorem dC_Frm_valueOf_43 : decode cC_Frm_valueOf 43 = .ok (.ifCond .ne (8), 3) := by decide +kernel
theorem dC_Frm_valueOf_46 : decode cC_Frm_valueOf 46 = .ok (.iload_n 2, 1) := by decide +kernel
theorem dC_Frm_valueOf_47 : decode cC_Frm_valueOf 47 = .ok (.iconst (2), 1) := by decide +kernel
theorem dC_Frm_valueOf_48 : decode cC_Frm_valueOf 48 = .ok (.if_icmp .eq (7), 3) := by decide +kernel
theorem dC_Frm_valueOf_51 : decode cC_Frm_valueOf 51 = .ok (.iconst (1), 1) := by decide +kernel
theorem dC_Frm_valueOf_52 : decode cC_Frm_valueOf 52 = .ok (.goto (4), 3) := by decide +kernel
theorem dC_Frm_valueOf_55 : decode cC_Frm_valueOf 55 = .ok (.iconst (0), 1) := by decide +kernel
theorem dC_Frm_valueOf_56 : decode cC_Frm_valueOf 56 = .ok (.putfield 41, 3) := by decide +kernel
theorem dC_Frm_valueOf_59 : decode cC_Frm_valueOf 59 = .ok (.iload_n 3, 1) := by decide +kernel
theorem dC_Frm_valueOf_60 : decode cC_Frm_valueOf 60 = .ok (.ireturn, 1) := by decide +kernel
abbrev cC_Frm_nearAddress : ByteArray := prog_4_method_12_code
def yC_Frm_nearAddress : MethodName := ⟨R_Frm, "nearAddress", "(II)I"⟩
theorem dC_Frm_nearAddress_0 : decode cC_Frm_nearAddress 0 = .ok (.iload_n 1, 1) := by decide +kernel
theorem dC_Frm_nearAddress_1 : decode cC_Frm_nearAddress 1 = .ok (.bipush (9), 2) := by decide +kernel
theorem dC_Frm_nearAddress_3 : decode cC_Frm_nearAddress 3 = .ok (.if_icmp .ne (17), 3) := by decide +kernel
theorem dC_Frm_nearAddress_6 : decode cC_Frm_nearAddress 6 = .ok (.aload_n 0, 1) := by decide +kernel
theorem dC_Frm_nearAddress_7 : decode cC_Frm_nearAddress 7 = .ok (.getfield 55, 3) := by decide +kernel
theorem dC_Frm_nearAddress_10 : decode cC_Frm_nearAddress 10 = .ok (.iload_n 2, 1) := by decide +kernel
theorem dC_Frm_nearAddress_11 : decode cC_Frm_nearAddress 11 = .ok (.invokevirtual 146, 3) := by decide +kernel
theorem dC_Frm_nearAddress_14 : decode cC_Frm_nearAddress 14 = .ok (.getfield 150, 3) := by decide +kernel
theorem dC_Frm_nearAddress_17 : decode cC_Frm_nearAddress 17 = .ok (.goto (4), 3) := by decide +kernel
theorem dC_Frm_nearAddress_20 : decode cC_Frm_nearAddress 20 = .ok (.iload_n 2, 1) := by decide +kernel
theorem dC_Frm_nearAddress_21 : decode cC_Frm_nearAddress 21 = .ok (.istore_n 3, 1) := by decide +kernel
theorem dC_Frm_nearAddress_22 : decode cC_Frm_nearAddress 22 = .ok (.aload_n 0, 1) := by decide +kernel
theorem dC_Frm_nearAddress_23 : decode cC_Frm_nearAddress 23 = .ok (.aload_n 0, 1) := by decide +kernel
theorem dC_Frm_nearAddress_24 : decode cC_Frm_nearAddress 24 = .ok (.getfield 41, 3) := by decide +kernel
theorem dC_Frm_nearAddress_27 : decode cC_Frm_nearAddress 27 = .ok (.ifCond .ne (14), 3) := by decide +kernel
theorem dC_Frm_nearAddress_30 : decode cC_Frm_nearAddress 30 = .ok (.aload_n 0, 1) := by decide +kernel
theorem dC_Frm_nearAddress_31 : decode cC_Frm_nearAddress 31 = .ok (.getfield 55, 3) := by decide +kernel
theorem dC_Frm_nearAddress_34 : decode cC_Frm_nearAddress 34 = .ok (.iload_n 3, 1) := by decide +kernel
theorem dC_Frm_nearAddress_35 : decode cC_Frm_nearAddress 35 = .ok (.invokevirtual 155, 3) := by decide +kernel
theorem dC_Frm_nearAddress_38 : decode cC_Frm_nearAddress 38 = .ok (.ifCond .ne (7), 3) := by decide +kernel
theorem dC_Frm_nearAddress_41 : decode cC_Frm_nearAddress 41 = .ok (.iconst (1), 1) := by decide +kernel
theorem dC_Frm_nearAddress_42 : decode cC_Frm_nearAddress 42 = .ok (.goto (4), 3) := by decide +kernel
theorem dC_Frm_nearAddress_45 : decode cC_Frm_nearAddress 45 = .ok (.iconst (0), 1) := by decide +kernel
theorem dC_Frm_nearAddress_46 : decode cC_Frm_nearAddress 46 = .ok (.putfield 41, 3) := by decide +kernel
theorem dC_Frm_nearAddress_49 : decode cC_Frm_nearAddress 49 = .ok (.aload_n 0, 1) := by decide +kernel
theorem dC_Frm_nearAddress_50 : decode cC_Frm_nearAddress 50 = .ok (.getfield 55, 3) := by decide +kernel
theorem dC_Frm_nearAddress_53 : decode cC_Frm_nearAddress 53 = .ok (.iload_n 3, 1) := by decide +kernel
theorem dC_Frm_nearAddress_54 : decode cC_Frm_nearAddress 54 = .ok (.invokevirtual 127, 3) := by decide +kernel
theorem dC_Frm_nearAddress_57 : decode cC_Frm_nearAddress 57 = .ok (.ireturn, 1) := by decide +kernel
abbrev cC_Frm_evaluate : ByteArray := prog_4_method_10_code
def yC_Frm_evaluate : MethodName := ⟨R_Frm, "evaluate", "(III)I"⟩
theorem dC_Frm_evaluate_0 : decode cC_Frm_evaluate 0 = .ok (.aload_n 0, 1) := by decide +kernel
theorem dC_Frm_evaluate_1 : decode cC_Frm_evaluate 1 = .ok (.getfield 32, 3) := by decide +kernel
theorem dC_Frm_evaluate_4 : decode cC_Frm_evaluate 4 = .ok (.iconst (0), 1) := by decide +kernel
theorem dC_Frm_evaluate_5 : decode cC_Frm_evaluate 5 = .ok (.invokevirtual 66, 3) := by decide +kernel
theorem dC_Frm_evaluate_8 : decode cC_Frm_evaluate 8 = .ok (.aload_n 0, 1) := by decide +kernel
theorem dC_Frm_evaluate_9 : decode cC_Frm_evaluate 9 = .ok (.iconst (0), 1) := by decide +kernel
theorem dC_Frm_evaluate_10 : decode cC_Frm_evaluate 10 = .ok (.putfield 41, 3) := by decide +kernel
theorem dC_Frm_evaluate_13 : decode cC_Frm_evaluate 13 = .ok (.aload_n 0, 1) := by decide +kernel
theorem dC_Frm_evaluate_14 : decode cC_Frm_evaluate 14 = .ok (.iconst (0), 1) := by decide +kernel
theorem dC_Frm_evaluate_15 : decode cC_Frm_evaluate 15 = .ok (.putfield 44, 3) := by decide +kernel
theorem dC_Frm_evaluate_18 : decode cC_Frm_evaluate 18 = .ok (.iload_n 1, 1) := by decide +kernel
theorem dC_Frm_evaluate_19 : decode cC_Frm_evaluate 19 = .ok (.istore 4, 2) := by decide +kernel
theorem dC_Frm_evaluate_21 : decode cC_Frm_evaluate 21 = .ok (.iload 4, 2) := by decide +kernel
theorem dC_Frm_evaluate_23 : decode cC_Frm_evaluate 23 = .ok (.iload_n 2, 1) := by decide +kernel
theorem dC_Frm_evaluate_24 : decode cC_Frm_evaluate 24 = .ok (.if_icmp .ge (236), 3) := by decide +kernel
theorem dC_Frm_evaluate_27 : decode cC_Frm_evaluate 27 = .ok (.aload_n 0, 1) := by decide +kernel
theorem dC_Frm_evaluate_28 : decode cC_Frm_evaluate 28 = .ok (.getfield 22, 3) := by decide +kernel
theorem dC_Frm_evaluate_31 : decode cC_Frm_evaluate 31 = .ok (.iload 4, 2) := by decide +kernel
theorem dC_Frm_evaluate_33 : decode cC_Frm_evaluate 33 = .ok (.invokevirtual 110, 3) := by decide +kernel
theorem dC_Frm_evaluate_36 : decode cC_Frm_evaluate 36 = .ok (.istore 5, 2) := by decide +kernel
theorem dC_Frm_evaluate_38 : decode cC_Frm_evaluate 38 = .ok (.aload_n 0, 1) := by decide +kernel
theorem dC_Frm_evaluate_39 : decode cC_Frm_evaluate 39 = .ok (.getfield 26, 3) := by decide +kernel
theorem dC_Frm_evaluate_42 : decode cC_Frm_evaluate 42 = .ok (.iload 4, 2) := by decide +kernel
theorem dC_Frm_evaluate_44 : decode cC_Frm_evaluate 44 = .ok (.invokevirtual 110, 3) := by decide +kernel
theorem dC_Frm_evaluate_47 : decode cC_Frm_evaluate 47 = .ok (.istore 6, 2) := by decide +kernel
theorem dC_Frm_evaluate_49 : decode cC_Frm_evaluate 49 = .ok (.iload 5, 2) := by decide +kernel
theorem dC_Frm_evaluate_51 : decode cC_Frm_evaluate 51 = .ok (.iconst (3), 1) := by decide +kernel
theorem dC_Frm_evaluate_52 : decode cC_Frm_evaluate 52 = .ok (.if_icmp .ne (15), 3) := by decide +kernel
theorem dC_Frm_evaluate_55 : decode cC_Frm_evaluate 55 = .ok (.aload_n 0, 1) := by decide +kernel
theorem dC_Frm_evaluate_56 : decode cC_Frm_evaluate 56 = .ok (.getfield 32, 3) := by decide +kernel
theorem dC_Frm_evaluate_59 : decode cC_Frm_evaluate 59 = .ok (.iload 6, 2) := by decide +kernel
theorem dC_Frm_evaluate_61 : decode cC_Frm_evaluate 61 = .ok (.invokevirtual 93, 3) := by decide +kernel
theorem dC_Frm_evaluate_64 : decode cC_Frm_evaluate 64 = .ok (.goto (190), 3) := by decide +kernel
theorem dC_Frm_evaluate_67 : decode cC_Frm_evaluate 67 = .ok (.iload 5, 2) := by decide +kernel
theorem dC_Frm_evaluate_69 : decode cC_Frm_evaluate 69 = .ok (.iconst (2), 1) := by decide +kernel
theorem dC_Frm_evaluate_70 : decode cC_Frm_evaluate 70 = .ok (.if_icmp .ne (19), 3) := by decide +kernel
theorem dC_Frm_evaluate_73 : decode cC_Frm_evaluate 73 = .ok (.aload_n 0, 1) := by decide +kernel
theorem dC_Frm_evaluate_74 : decode cC_Frm_evaluate 74 = .ok (.getfield 32, 3) := by decide +kernel
theorem dC_Frm_evaluate_77 : decode cC_Frm_evaluate 77 = .ok (.aload_n 0, 1) := by decide +kernel
theorem dC_Frm_evaluate_78 : decode cC_Frm_evaluate 78 = .ok (.iload 6, 2) := by decide +kernel
theorem dC_Frm_evaluate_80 : decode cC_Frm_evaluate 80 = .ok (.invokevirtual 124, 3) := by decide +kernel
theorem dC_Frm_evaluate_83 : decode cC_Frm_evaluate 83 = .ok (.invokevirtual 93, 3) := by decide +kernel
theorem dC_Frm_evaluate_86 : decode cC_Frm_evaluate 86 = .ok (.goto (168), 3) := by decide +kernel
theorem dC_Frm_evaluate_89 : decode cC_Frm_evaluate 89 = .ok (.iload 5, 2) := by decide +kernel
theorem dC_Frm_evaluate_91 : decode cC_Frm_evaluate 91 = .ok (.bipush (7), 2) := by decide +kernel
theorem dC_Frm_evaluate_93 : decode cC_Frm_evaluate 93 = .ok (.if_icmp .ne (21), 3) := by decide +kernel
theorem dC_Frm_evaluate_96 : decode cC_Frm_evaluate 96 = .ok (.aload_n 0, 1) := by decide +kernel
theorem dC_Frm_evaluate_97 : decode cC_Frm_evaluate 97 = .ok (.getfield 32, 3) := by decide +kernel
theorem dC_Frm_evaluate_100 : decode cC_Frm_evaluate 100 = .ok (.aload_n 0, 1) := by decide +kernel
theorem dC_Frm_evaluate_101 : decode cC_Frm_evaluate 101 = .ok (.getfield 55, 3) := by decide +kernel
theorem dC_Frm_evaluate_104 : decode cC_Frm_evaluate 104 = .ok (.iload_n 3, 1) := by decide +kernel
theorem dC_Frm_evaluate_105 : decode cC_Frm_evaluate 105 = .ok (.invokevirtual 127, 3) := by decide +kernel
theorem dC_Frm_evaluate_108 : decode cC_Frm_evaluate 108 = .ok (.invokevirtual 93, 3) := by decide +kernel
theorem dC_Frm_evaluate_111 : decode cC_Frm_evaluate 111 = .ok (.goto (143), 3) := by decide +kernel
theorem dC_Frm_evaluate_114 : decode cC_Frm_evaluate 114 = .ok (.iload 5, 2) := by decide +kernel
theorem dC_Frm_evaluate_116 : decode cC_Frm_evaluate 116 = .ok (.bipush (8), 2) := by decide +kernel
theorem dC_Frm_evaluate_118 : decode cC_Frm_evaluate 118 = .ok (.if_icmp .eq (10), 3) := by decide +kernel
theorem dC_Frm_evaluate_121 : decode cC_Frm_evaluate 121 = .ok (.iload 5, 2) := by decide +kernel
theorem dC_Frm_evaluate_123 : decode cC_Frm_evaluate 123 = .ok (.bipush (9), 2) := by decide +kernel
theorem dC_Frm_evaluate_125 : decode cC_Frm_evaluate 125 = .ok (.if_icmp .ne (21), 3) := by decide +kernel
theorem dC_Frm_evaluate_128 : decode cC_Frm_evaluate 128 = .ok (.aload_n 0, 1) := by decide +kernel
theorem dC_Frm_evaluate_129 : decode cC_Frm_evaluate 129 = .ok (.getfield 32, 3) := by decide +kernel
theorem dC_Frm_evaluate_132 : decode cC_Frm_evaluate 132 = .ok (.aload_n 0, 1) := by decide +kernel
theorem dC_Frm_evaluate_133 : decode cC_Frm_evaluate 133 = .ok (.iload 5, 2) := by decide +kernel
theorem dC_Frm_evaluate_135 : decode cC_Frm_evaluate 135 = .ok (.iload 6, 2) := by decide +kernel
theorem dC_Frm_evaluate_137 : decode cC_Frm_evaluate 137 = .ok (.invokevirtual 130, 3) := by decide +kernel
theorem dC_Frm_evaluate_140 : decode cC_Frm_evaluate 140 = .ok (.invokevirtual 93, 3) := by decide +kernel
theorem dC_Frm_evaluate_143 : decode cC_Frm_evaluate 143 = .ok (.goto (111), 3) := by decide +kernel
theorem dC_Frm_evaluate_146 : decode cC_Frm_evaluate 146 = .ok (.iload 5, 2) := by decide +kernel
theorem dC_Frm_evaluate_148 : decode cC_Frm_evaluate 148 = .ok (.invokestatic 90, 3) := by decide +kernel
theorem dC_Frm_evaluate_151 : decode cC_Frm_evaluate 151 = .ok (.bipush (7), 2) := by decide +kernel
theorem dC_Frm_evaluate_153 : decode cC_Frm_evaluate 153 = .ok (.if_icmp .ne (40), 3) := by decide +kernel
theorem dC_Frm_evaluate_156 : decode cC_Frm_evaluate 156 = .ok (.aload_n 0, 1) := by decide +kernel
theorem dC_Frm_evaluate_157 : decode cC_Frm_evaluate 157 = .ok (.getfield 32, 3) := by decide +kernel
theorem dC_Frm_evaluate_160 : decode cC_Frm_evaluate 160 = .ok (.getfield 63, 3) := by decide +kernel
theorem dC_Frm_evaluate_163 : decode cC_Frm_evaluate 163 = .ok (.iconst (1), 1) := by decide +kernel
theorem dC_Frm_evaluate_164 : decode cC_Frm_evaluate 164 = .ok (.isub, 1) := by decide +kernel
theorem dC_Frm_evaluate_165 : decode cC_Frm_evaluate 165 = .ok (.istore 7, 2) := by decide +kernel
theorem dC_Frm_evaluate_167 : decode cC_Frm_evaluate 167 = .ok (.aload_n 0, 1) := by decide +kernel
theorem dC_Frm_evaluate_168 : decode cC_Frm_evaluate 168 = .ok (.getfield 32, 3) := by decide +kernel
theorem dC_Frm_evaluate_171 : decode cC_Frm_evaluate 171 = .ok (.iload 7, 2) := by decide +kernel
theorem dC_Frm_evaluate_173 : decode cC_Frm_evaluate 173 = .ok (.iload 5, 2) := by decide +kernel
theorem dC_Frm_evaluate_175 : decode cC_Frm_evaluate 175 = .ok (.aload_n 0, 1) := by decide +kernel
theorem dC_Frm_evaluate_176 : decode cC_Frm_evaluate 176 = .ok (.getfield 32, 3) := by decide +kernel
theorem dC_Frm_evaluate_179 : decode cC_Frm_evaluate 179 = .ok (.iload 7, 2) := by decide +kernel
theorem dC_Frm_evaluate_181 : decode cC_Frm_evaluate 181 = .ok (.invokevirtual 110, 3) := by decide +kernel
theorem dC_Frm_evaluate_184 : decode cC_Frm_evaluate 184 = .ok (.invokestatic 134, 3) := by decide +kernel
theorem dC_Frm_evaluate_187 : decode cC_Frm_evaluate 187 = .ok (.invokevirtual 137, 3) := by decide +kernel
theorem dC_Frm_evaluate_190 : decode cC_Frm_evaluate 190 = .ok (.goto (64), 3) := by decide +kernel
theorem dC_Frm_evaluate_193 : decode cC_Frm_evaluate 193 = .ok (.aload_n 0, 1) := by decide +kernel
theorem dC_Frm_evaluate_194 : decode cC_Frm_evaluate 194 = .ok (.getfield 32, 3) := by decide +kernel
theorem dC_Frm_evaluate_197 : decode cC_Frm_evaluate 197 = .ok (.getfield 63, 3) := by decide +kernel
theorem dC_Frm_evaluate_200 : decode cC_Frm_evaluate 200 = .ok (.iconst (1), 1) := by decide +kernel
theorem dC_Frm_evaluate_201 : decode cC_Frm_evaluate 201 = .ok (.isub, 1) := by decide +kernel
theorem dC_Frm_evaluate_202 : decode cC_Frm_evaluate 202 = .ok (.istore 7, 2) := by decide +kernel
theorem dC_Frm_evaluate_204 : decode cC_Frm_evaluate 204 = .ok (.aload_n 0, 1) := by decide +kernel
theorem dC_Frm_evaluate_205 : decode cC_Frm_evaluate 205 = .ok (.iload 5, 2) := by decide +kernel
theorem dC_Frm_evaluate_207 : decode cC_Frm_evaluate 207 = .ok (.aload_n 0, 1) := by decide +kernel
theorem dC_Frm_evaluate_208 : decode cC_Frm_evaluate 208 = .ok (.getfield 32, 3) := by decide +kernel
theorem dC_Frm_evaluate_211 : decode cC_Frm_evaluate 211 = .ok (.iload 7, 2) := by decide +kernel
theorem dC_Frm_evaluate_213 : decode cC_Frm_evaluate 213 = .ok (.iconst (1), 1) := by decide +kernel
theorem dC_Frm_evaluate_214 : decode cC_Frm_evaluate 214 = .ok (.isub, 1) := by decide +kernel
theorem dC_Frm_evaluate_215 : decode cC_Frm_evaluate 215 = .ok (.invokevirtual 110, 3) := by decide +kernel
theorem dC_Frm_evaluate_218 : decode cC_Frm_evaluate 218 = .ok (.aload_n 0, 1) := by decide +kernel
theorem dC_Frm_evaluate_219 : decode cC_Frm_evaluate 219 = .ok (.getfield 32, 3) := by decide +kernel
theorem dC_Frm_evaluate_222 : decode cC_Frm_evaluate 222 = .ok (.iload 7, 2) := by decide +kernel
theorem dC_Frm_evaluate_224 : decode cC_Frm_evaluate 224 = .ok (.invokevirtual 110, 3) := by decide +kernel
theorem dC_Frm_evaluate_227 : decode cC_Frm_evaluate 227 = .ok (.invokevirtual 141, 3) := by decide +kernel
theorem dC_Frm_evaluate_230 : decode cC_Frm_evaluate 230 = .ok (.istore 8, 2) := by decide +kernel
theorem dC_Frm_evaluate_232 : decode cC_Frm_evaluate 232 = .ok (.aload_n 0, 1) := by decide +kernel
theorem dC_Frm_evaluate_233 : decode cC_Frm_evaluate 233 = .ok (.getfield 32, 3) := by decide +kernel
theorem dC_Frm_evaluate_236 : decode cC_Frm_evaluate 236 = .ok (.iload 7, 2) := by decide +kernel
theorem dC_Frm_evaluate_238 : decode cC_Frm_evaluate 238 = .ok (.invokevirtual 66, 3) := by decide +kernel
theorem dC_Frm_evaluate_241 : decode cC_Frm_evaluate 241 = .ok (.aload_n 0, 1) := by decide +kernel
theorem dC_Frm_evaluate_242 : decode cC_Frm_evaluate 242 = .ok (.getfield 32, 3) := by decide +kernel
theorem dC_Frm_evaluate_245 : decode cC_Frm_evaluate 245 = .ok (.iload 7, 2) := by decide +kernel
theorem dC_Frm_evaluate_247 : decode cC_Frm_evaluate 247 = .ok (.iconst (1), 1) := by decide +kernel
theorem dC_Frm_evaluate_248 : decode cC_Frm_evaluate 248 = .ok (.isub, 1) := by decide +kernel
theorem dC_Frm_evaluate_249 : decode cC_Frm_evaluate 249 = .ok (.iload 8, 2) := by decide +kernel
theorem dC_Frm_evaluate_251 : decode cC_Frm_evaluate 251 = .ok (.invokevirtual 137, 3) := by decide +kernel
theorem dC_Frm_evaluate_254 : decode cC_Frm_evaluate 254 = .ok (.iinc 4 (1), 3) := by decide +kernel
theorem dC_Frm_evaluate_257 : decode cC_Frm_evaluate 257 = .ok (.goto (-236), 3) := by decide +kernel
theorem dC_Frm_evaluate_260 : decode cC_Frm_evaluate 260 = .ok (.aload_n 0, 1) := by decide +kernel
theorem dC_Frm_evaluate_261 : decode cC_Frm_evaluate 261 = .ok (.aload_n 0, 1) := by decide +kernel
theorem dC_Frm_evaluate_262 : decode cC_Frm_evaluate 262 = .ok (.getfield 32, 3) := by decide +kernel
theorem dC_Frm_evaluate_265 : decode cC_Frm_evaluate 265 = .ok (.iconst (0), 1) := by decide +kernel
theorem dC_Frm_evaluate_266 : decode cC_Frm_evaluate 266 = .ok (.invokevirtual 110, 3) := by decide +kernel
theorem dC_Frm_evaluate_269 : decode cC_Frm_evaluate 269 = .ok (.putfield 15, 3) := by decide +kernel
theorem dC_Frm_evaluate_272 : decode cC_Frm_evaluate 272 = .ok (.aload_n 0, 1) := by decide +kernel
theorem dC_Frm_evaluate_273 : decode cC_Frm_evaluate 273 = .ok (.getfield 41, 3) := by decide +kernel
theorem dC_Frm_evaluate_276 : decode cC_Frm_evaluate 276 = .ok (.ifCond .eq (8), 3) := by decide +kernel
theorem dC_Frm_evaluate_279 : decode cC_Frm_evaluate 279 = .ok (.bipush (8), 2) := by decide +kernel
theorem dC_Frm_evaluate_281 : decode cC_Frm_evaluate 281 = .ok (.goto (16), 3) := by decide +kernel
theorem dC_Frm_evaluate_284 : decode cC_Frm_evaluate 284 = .ok (.aload_n 0, 1) := by decide +kernel
theorem dC_Frm_evaluate_285 : decode cC_Frm_evaluate 285 = .ok (.getfield 44, 3) := by decide +kernel
theorem dC_Frm_evaluate_288 : decode cC_Frm_evaluate 288 = .ok (.ifCond .eq (8), 3) := by decide +kernel
theorem dC_Frm_evaluate_291 : decode cC_Frm_evaluate 291 = .ok (.bipush (9), 2) := by decide +kernel
theorem dC_Frm_evaluate_293 : decode cC_Frm_evaluate 293 = .ok (.goto (4), 3) := by decide +kernel
theorem dC_Frm_evaluate_296 : decode cC_Frm_evaluate 296 = .ok (.iconst (0), 1) := by decide +kernel
theorem dC_Frm_evaluate_297 : decode cC_Frm_evaluate 297 = .ok (.ireturn, 1) := by decide +kernel
theorem gC_Frm_59 : GoodIn lw_gd (wsV R_Frm 59 R_Frm yC_Frm_dropFrom (.code yC_Frm_dropFrom cC_Frm_dropFrom 2 none :: lw_gd)) := lw_GV qc_998 qc_995 qc_996 qc_997 qc_20
theorem gC_Frm_66 : GoodIn lw_gd (wsV R_Frm 66 R_Row yC_Row_cut (.code yC_Row_cut cC_Row_cut 2 none :: lw_gd)) := lw_GV qc_182 qc_999 qc_180 qc_181 qc_2
theorem gC_Frm_69 : GoodIn lw_gd (wsV R_Frm 69 R_Tok yC_Tok_left (.code yC_Tok_left cC_Tok_left 1 (some .int) :: lw_gd)) := lw_GV qc_1078 qc_1146 qc_1076 qc_1077 qc_13
theorem gC_Frm_75 : GoodIn lw_gd (wsV R_Frm 75 R_Tok yC_Tok_kind (.code yC_Tok_kind cC_Tok_kind 3 (some .int) :: lw_gd)) := lw_GV qc_1086 qc_1147 qc_1084 qc_1085 qc_13
theorem gC_Frm_79 : GoodIn lw_gd (wsV R_Frm 79 R_Frm yC_Frm_takePart (.code yC_Frm_takePart cC_Frm_takePart 2 (some .boolean) :: lw_gd)) := lw_GV qc_1151 qc_1148 qc_1150 qsc_27 qc_20
theorem gC_Frm_83 : GoodIn lw_gd (wsV R_Frm 83 R_Frm yC_Frm_takeOperand (.code yC_Frm_takeOperand cC_Frm_takeOperand 4 (some .boolean) :: lw_gd)) := lw_GV qc_1158 qc_1155 qc_1157 qsc_28 qc_20
theorem gC_Frm_87 : GoodIn lw_gd (wsV R_Frm 87 R_Frm yC_Frm_settleSigns (.code yC_Frm_settleSigns cC_Frm_settleSigns 4 none :: lw_gd)) := lw_GV qc_1167 qc_1164 qc_1166 qsc_29 qc_20
theorem gC_Frm_93 : GoodIn lw_gd (wsV R_Frm 93 R_Row yC_Row_add (.code yC_Row_add cC_Row_add 2 none :: lw_gd)) := lw_GV qc_75 qc_1153 qc_73 qc_74 qc_2
theorem gC_Frm_96 : GoodIn lw_gd (wsV R_Frm 96 R_Tok yC_Tok_skip (.code yC_Tok_skip cC_Tok_skip 2 none :: lw_gd)) := lw_GV qc_1120 qc_1154 qc_1118 qc_1119 qc_13
theorem gC_Frm_99 : GoodIn lw_gd (wsV R_Frm 99 R_Tok yC_Tok_value (.code yC_Tok_value cC_Tok_value 3 (some .int) :: lw_gd)) := lw_GV qc_1094 qc_1152 qc_1092 qc_1093 qc_13
theorem gC_Frm_110 : GoodIn lw_gd (wsV R_Frm 110 R_Row yC_Row_get (.code yC_Row_get cC_Row_get 2 (some .int) :: lw_gd)) := lw_GV qc_170 qc_1159 qc_168 qc_169 qc_2
theorem gC_Frm_113 : GoodIn lw_gd (wsV R_Frm 113 R_Prg yC_Prg_latest (.code yC_Prg_latest cC_Prg_latest 2 (some .int) :: lw_gd)) := lw_GV qc_1163 qc_1160 qc_1161 qc_1162 qc_14
theorem gC_Frm_124 : GoodIn lw_gd (wsV R_Frm 124 R_Frm yC_Frm_valueOf (.code yC_Frm_valueOf cC_Frm_valueOf 4 (some .int) :: lw_gd)) := lw_GV qc_1178 qc_1175 qc_1177 qsc_30 qc_20
theorem gC_Frm_127 : GoodIn lw_gd (wsV R_Frm 127 R_Prg yC_Prg_addressOf (.code yC_Prg_addressOf cC_Prg_addressOf 3 (some .int) :: lw_gd)) := lw_GV qc_1182 qc_1179 qc_1180 qc_1181 qc_14
theorem gC_Frm_130 : GoodIn lw_gd (wsV R_Frm 130 R_Frm yC_Frm_nearAddress (.code yC_Frm_nearAddress cC_Frm_nearAddress 4 (some .int) :: lw_gd)) := lw_GV qc_1186 qc_1183 qc_1185 qsc_31 qc_20
theorem gC_Frm_137 : GoodIn lw_gd (wsV R_Frm 137 R_Row yC_Row_set (.code yC_Row_set cC_Row_set 3 none :: lw_gd)) := lw_GV qc_1114 qc_1195 qc_1112 qc_1113 qc_2
theorem gC_Frm_141 : GoodIn lw_gd (wsV R_Frm 141 R_Frm yC_Frm_joined (.code yC_Frm_joined cC_Frm_joined 4 (some .int) :: lw_gd)) := lw_GV qc_1199 qc_1196 qc_1198 qsc_32 qc_20
theorem gC_Frm_146 : GoodIn lw_gd (wsV R_Frm 146 R_Prg yC_Prg_find (.code yC_Prg_find cC_Prg_find 2 (some (.object "LineAssembler$Item")) :: lw_gd)) := lw_GV qc_1102 qc_1187 qc_1100 qc_1101 qc_14
theorem gC_Frm_155 : GoodIn lw_gd (wsV R_Frm 155 R_Prg yC_Prg_isInText (.code yC_Prg_isInText cC_Prg_isInText 2 (some .boolean) :: lw_gd)) := lw_GV qc_1191 qc_1188 qc_1189 qc_1190 qc_14
section
variable {p : Program} {l : Launch} {e : Env} {s : State} {m : MethodId} {args : Array Value} {below : List Frame} {meth : Method} {c : Code} {D : va_G} {dA : Nat → ClassId} {z : Nat → Nat} {o b i : Nat → Nat} {A : Nat → Prop}
def C_Frm_end  (sF : CS) (sN : CS) (sT : CS) (sP : CS) (sI : CS) : Option Int32 :=
  some (sF.1 100)
set_option maxHeartbeats 4000000 in
set_option maxRecDepth 100000 in
theorem bC_Frm_end_0  {r : Int32} (C : CxC R_Frm p s m args meth c cC_Frm_end 1 (some .int) D dA (zz o) A)  (sF : CS) (sN : CS) (sT : CS) (sP : CS) (sI : CS) (hM : C_Frm_end   sF sN sT sP sI = some r) (hW : WdC D A s (w_Frm dA o b i sF sN sT sP sI) s.heap []) (ls : Array Slot) (hl : lv_has ls 1 [(0, .ref (o 96))]) : W p l e (rmC 0 0 0 0) s m args below meth c s.heap [] 0 0 (MQ below (QS (some (.int r))) args s 0 0 (fun _ => False)) (F0 m 0 ls []) := by
  have hx := C.1.1
  have hb := C.1.2.1
  have hown := C.1.2.2.2.2.1
  have hT := C.1.2.2.2.2.2.1
  unfold C_Frm_end at hM
  refine lv_aload_n (pc := 0) hx hb dC_Frm_end_0 rfl (lv_at hl 0 rfl) ?_
  refine x_getC (pc := 1) C hW 0 rfl (ci := 7) rfl i_Frm 5 (by decide) qc_470 rfl rfl dC_Frm_end_1 ?_
  refine x_getC (pc := 4) C hW 1 rfl (ci := 1) rfl i_Row 0 (by decide) qc_56 rfl rfl dC_Frm_end_4 ?_
  obtain rfl := sm_i hM
  exact x_retS (pc := 7) C.1 rfl dC_Frm_end_7
theorem kC_Frm_end (l : Launch) (D : va_G) (dA : Nat → ClassId) (o b i : Nat → Nat)  (sF : CS) (sN : CS) (sT : CS) (sP : CS) (sI : CS) {r : Int32} (hM : C_Frm_end  sF sN sT sP sI = some r) : KQ l D dA (zz o) yC_Frm_end cC_Frm_end 1 (some .int) 0 0 (w_Frm dA o b i sF sN sT sP sI) [.ref (o 96)] (some (.int r)) := x_enterQ (by decide +kernel) (Nat.le_of_ble_eq_true rfl) (fun p e s m args below meth c A C hW ls hl => bC_Frm_end_0 C  sF sN sT sP sI hM hW ls hl)
def C_Frm_dropFrom (x1 : Int32) (sF : CS) (sN : CS) (sT : CS) (sP : CS) (sI : CS) : Option (Int32 × CS) :=
  cl (C_Row_cut  x1 (rg sF 0)) (fun r1 u2 => bnd (rs sF 0 u2) (fun sF3 => cl (C_Row_cut  x1 (rg sF3 1)) (fun r4 u5 => bnd (rs sF3 1 u5) (fun sF6 => some ((0 : Int32), sF6)))))
set_option maxHeartbeats 4000000 in
set_option maxRecDepth 100000 in
theorem bC_Frm_dropFrom_0  {r : Int32} {u : CS} (C : CxC R_Frm p s m args meth c cC_Frm_dropFrom 2 none D dA (zz o) A) (x1 : Int32) (sF : CS) (sN : CS) (sT : CS) (sP : CS) (sI : CS) (hM : C_Frm_dropFrom  x1 sF sN sT sP sI = some (r, u)) (H : Heap) (locs : List Loc) (hW : WdC D A s (w_Frm dA o b i sF sN sT sP sI) H locs) (ls : Array Slot) (hl : lv_has ls 2 [(0, .ref (o 96)), (1, .int x1)]) : W p l e (rmC 1 21 0 0) s m args below meth c H locs 0 0 (MQ below (QC D A (fun Ws' ov => Ws' = (w_Frm dA o b i u sN sT sP sI) ∧ ov = none)) args s 0 0 A) (F0 m 0 ls []) := by
  have hx := C.1.1
  have hb := C.1.2.1
  have hown := C.1.2.2.2.2.1
  have hT := C.1.2.2.2.2.2.1
  unfold C_Frm_dropFrom at hM
  refine lv_aload_n (pc := 0) hx hb dC_Frm_dropFrom_0 rfl (lv_at hl 0 rfl) ?_
  refine x_getC (pc := 1) C hW 0 rfl (ci := 7) rfl i_Frm 5 (by decide) qc_470 rfl rfl dC_Frm_dropFrom_1 ?_
  refine lv_iload_n (pc := 4) hx hb dC_Frm_dropFrom_4 rfl (lv_at hl 1 rfl) ?_
  obtain ⟨r1, u2, hr1, hM⟩ := cl_some hM
  refine x_callC (pc := 5) (n' := 40) C hW (kC_Row_cut l D dA (zz o) (fun _ => o 97) (fun _ => b 97)  x1 (rg sF 0) hr1) [1, 2, 0, 3, 4, 5, 6, 7, 8, 9, 10, 11, 12, 13, 14, 15, 16, 17, 18, 19, 20, 21, 22, 23, 24, 25, 26, 27, 28, 29, 30, 31, 32, 33, 34, 35, 36, 37, 38, 39] rfl (by decide +kernel) rfl (ci := 1) rfl (q0 := 1) rfl gC_Frm_66 ⟨rfl, by decide, by decide, by decide +kernel⟩ ⟨Nat.le_of_ble_eq_true rfl, Nat.le_of_ble_eq_true rfl⟩ ⟨Nat.le_refl _, Nat.le_refl _⟩ (As := [.int x1]) (n := 1) rfl hl.1 rfl (Nat.le_of_ble_eq_true rfl) dC_Frm_dropFrom_5 (fun Wc' ov H locs hPo hWn => ?_)
  obtain ⟨rfl, rfl⟩ := hPo
  have hW := hWn (w_Frm dA o b i (rs sF 0 u2) sN sT sP sI) rfl rfl
  obtain ⟨sF3, esF3, hM⟩ := bnd_some hM
  rw [← esF3] at hW
  refine lv_aload_n (pc := 8) hx hb dC_Frm_dropFrom_8 rfl (lv_at hl 0 rfl) ?_
  refine x_getC (pc := 9) C hW 0 rfl (ci := 7) rfl i_Frm 6 (by decide) qc_471 rfl rfl dC_Frm_dropFrom_9 ?_
  refine lv_iload_n (pc := 12) hx hb dC_Frm_dropFrom_12 rfl (lv_at hl 1 rfl) ?_
  obtain ⟨r4, u5, hr4, hM⟩ := cl_some hM
  refine x_callC (pc := 13) (n' := 40) C hW (kC_Row_cut l D dA (zz o) (fun _ => o 98) (fun _ => b 98)  x1 (rg sF3 1) hr4) [3, 4, 0, 1, 2, 5, 6, 7, 8, 9, 10, 11, 12, 13, 14, 15, 16, 17, 18, 19, 20, 21, 22, 23, 24, 25, 26, 27, 28, 29, 30, 31, 32, 33, 34, 35, 36, 37, 38, 39] rfl (by decide +kernel) rfl (ci := 1) rfl (q0 := 3) rfl gC_Frm_66 ⟨rfl, by decide, by decide, by decide +kernel⟩ ⟨Nat.le_of_ble_eq_true rfl, Nat.le_of_ble_eq_true rfl⟩ ⟨Nat.le_refl _, Nat.le_refl _⟩ (As := [.int x1]) (n := 1) rfl hl.1 rfl (Nat.le_of_ble_eq_true rfl) dC_Frm_dropFrom_13 (fun Wc' ov H locs hPo hWn => ?_)
  obtain ⟨rfl, rfl⟩ := hPo
  have hW := hWn (w_Frm dA o b i (rs sF3 1 u5) sN sT sP sI) rfl rfl
  obtain ⟨sF6, esF6, hM⟩ := bnd_some hM
  rw [← esF6] at hW
  obtain ⟨rfl, rfl⟩ := sm_p hM
  exact x_retCv (pc := 16) C rfl hW ⟨rfl, rfl⟩ (Nat.le_refl 0) (Nat.le_refl 0) dC_Frm_dropFrom_16
theorem kC_Frm_dropFrom (l : Launch) (D : va_G) (dA : Nat → ClassId) (o b i : Nat → Nat) (x1 : Int32) (sF : CS) (sN : CS) (sT : CS) (sP : CS) (sI : CS) {r : Int32} {u : CS} (hM : C_Frm_dropFrom x1 sF sN sT sP sI = some (r, u)) : KC l D dA (zz o) yC_Frm_dropFrom cC_Frm_dropFrom 2 none 1 21 0 0 (w_Frm dA o b i sF sN sT sP sI) [.ref (o 96), .int x1] (fun Ws' ov => Ws' = (w_Frm dA o b i u sN sT sP sI) ∧ ov = none) := x_enterC (by decide +kernel) (Nat.le_of_ble_eq_true rfl) (fun p e s m args below meth c A C _ hW ls hl => bC_Frm_dropFrom_0 C x1 sF sN sT sP sI hM s.heap [] hW ls hl)
def C_Frm_empty  (sF : CS) (sN : CS) (sT : CS) (sP : CS) (sI : CS) : Option (Int32 × CS) :=
  cl (C_Frm_dropFrom  (0 : Int32) sF sN sT sP sI) (fun r1 u2 => some ((0 : Int32), u2))
set_option maxHeartbeats 4000000 in
set_option maxRecDepth 100000 in
theorem bC_Frm_empty_0  {r : Int32} {u : CS} (C : CxC R_Frm p s m args meth c cC_Frm_empty 1 none D dA (zz o) A)  (sF : CS) (sN : CS) (sT : CS) (sP : CS) (sI : CS) (hM : C_Frm_empty   sF sN sT sP sI = some (r, u)) (H : Heap) (locs : List Loc) (hW : WdC D A s (w_Frm dA o b i sF sN sT sP sI) H locs) (ls : Array Slot) (hl : lv_has ls 1 [(0, .ref (o 96))]) : W p l e (rmC 2 42 0 0) s m args below meth c H locs 0 0 (MQ below (QC D A (fun Ws' ov => Ws' = (w_Frm dA o b i u sN sT sP sI) ∧ ov = none)) args s 0 0 A) (F0 m 0 ls []) := by
  have hx := C.1.1
  have hb := C.1.2.1
  have hown := C.1.2.2.2.2.1
  have hT := C.1.2.2.2.2.2.1
  unfold C_Frm_empty at hM
  refine lv_aload_n (pc := 0) hx hb dC_Frm_empty_0 rfl (lv_at hl 0 rfl) ?_
  refine lv_iconst (pc := 1) (v := 0) hx hb dC_Frm_empty_1 (by decide) ?_
  obtain ⟨r1, u2, hr1, hM⟩ := cl_some hM
  refine x_callC (pc := 2) (n' := 40) C hW (kC_Frm_dropFrom l D dA o b i  (0 : Int32) sF sN sT sP sI hr1) [0, 1, 2, 3, 4, 5, 6, 7, 8, 9, 10, 11, 12, 13, 14, 15, 16, 17, 18, 19, 20, 21, 22, 23, 24, 25, 26, 27, 28, 29, 30, 31, 32, 33, 34, 35, 36, 37, 38, 39] rfl (by decide +kernel) rfl (ci := 7) rfl (q0 := 0) rfl gC_Frm_59 ⟨rfl, by decide, by decide, by decide +kernel⟩ ⟨Nat.le_of_ble_eq_true rfl, Nat.le_of_ble_eq_true rfl⟩ ⟨Nat.le_refl _, Nat.le_refl _⟩ (As := [.int (0 : Int32)]) (n := 1) rfl hl.1 rfl (Nat.le_of_ble_eq_true rfl) dC_Frm_empty_2 (fun Wc' ov H locs hPo hWn => ?_)
  obtain ⟨rfl, rfl⟩ := hPo
  have hW := hWn (w_Frm dA o b i u2 sN sT sP sI) rfl rfl
  obtain ⟨rfl, rfl⟩ := sm_p hM
  exact x_retCv (pc := 5) C rfl hW ⟨rfl, rfl⟩ (Nat.le_refl 0) (Nat.le_refl 0) dC_Frm_empty_5
theorem kC_Frm_empty (l : Launch) (D : va_G) (dA : Nat → ClassId) (o b i : Nat → Nat)  (sF : CS) (sN : CS) (sT : CS) (sP : CS) (sI : CS) {r : Int32} {u : CS} (hM : C_Frm_empty  sF sN sT sP sI = some (r, u)) : KC l D dA (zz o) yC_Frm_empty cC_Frm_empty 1 none 2 42 0 0 (w_Frm dA o b i sF sN sT sP sI) [.ref (o 96)] (fun Ws' ov => Ws' = (w_Frm dA o b i u sN sT sP sI) ∧ ov = none) := x_enterC (by decide +kernel) (Nat.le_of_ble_eq_true rfl) (fun p e s m args below meth c A C _ hW ls hl => bC_Frm_empty_0 C  sF sN sT sP sI hM s.heap [] hW ls hl)
def C_Frm_joined_114 (t0 : Int32) (sF : CS) (sN : CS) (sT : CS) (sP : CS) (sI : CS) : Option (Int32 × CS) :=
  some (t0, sF)
set_option maxHeartbeats 4000000 in
set_option maxRecDepth 100000 in
theorem bC_Frm_joined_114  {r : Int32} {u : CS} (C : CxC R_Frm p s m args meth c cC_Frm_joined 4 (some .int) D dA (zz o) A) (t0 : Int32) (sF : CS) (sN : CS) (sT : CS) (sP : CS) (sI : CS) (hM : C_Frm_joined_114  t0 sF sN sT sP sI = some (r, u)) (H : Heap) (locs : List Loc) (hW : WdC D A s (w_Frm dA o b i sF sN sT sP sI) H locs) (ls : Array Slot) (hl : lv_has ls 4 []) : W p l e (rmC 0 0 0 0) s m args below meth c H locs 0 0 (MQ below (QC D A (fun Ws' ov => Ws' = (w_Frm dA o b i u sN sT sP sI) ∧ ov = (some (.int r)))) args s 0 0 A) (F0 m 114 ls [.int t0]) := by
  have hx := C.1.1
  have hb := C.1.2.1
  have hown := C.1.2.2.2.2.1
  have hT := C.1.2.2.2.2.2.1
  unfold C_Frm_joined_114 at hM
  obtain ⟨rfl, rfl⟩ := sm_p hM
  exact x_retCi (pc := 114) C rfl hW ⟨rfl, rfl⟩ (Nat.le_refl 0) (Nat.le_refl 0) dC_Frm_joined_114
def C_Frm_joined_88 (x1 : Int32) (x2 : Int32) (x3 : Int32) (sF : CS) (sN : CS) (sT : CS) (sP : CS) (sI : CS) : Option (Int32 × CS) :=
  (if x3 = 0 then bnd (cF sF 5 (1 : Int32)) (fun sF3 => some ((0 : Int32), sF3)) else (if x1 = (47 : Int32) then gd (nz x3) (C_Frm_joined_114  (x2 / x3) sF sN sT sP sI) else gd (nz x3) (C_Frm_joined_114  (jrem x2 x3) sF sN sT sP sI)))
set_option maxHeartbeats 4000000 in
set_option maxRecDepth 100000 in
theorem bC_Frm_joined_88  {r : Int32} {u : CS} (C : CxC R_Frm p s m args meth c cC_Frm_joined 4 (some .int) D dA (zz o) A) (x1 : Int32) (x2 : Int32) (x3 : Int32) (sF : CS) (sN : CS) (sT : CS) (sP : CS) (sI : CS) (hM : C_Frm_joined_88  x1 x2 x3 sF sN sT sP sI = some (r, u)) (H : Heap) (locs : List Loc) (hW : WdC D A s (w_Frm dA o b i sF sN sT sP sI) H locs) (ls : Array Slot) (hl : lv_has ls 4 [(0, .ref (o 96)), (1, .int x1), (2, .int x2), (3, .int x3)]) : W p l e (rmC 0 0 0 0) s m args below meth c H locs 0 0 (MQ below (QC D A (fun Ws' ov => Ws' = (w_Frm dA o b i u sN sT sP sI) ∧ ov = (some (.int r)))) args s 0 0 A) (F0 m 88 ls []) := by
  have hx := C.1.1
  have hb := C.1.2.1
  have hown := C.1.2.2.2.2.1
  have hT := C.1.2.2.2.2.2.1
  unfold C_Frm_joined_88 at hM
  refine lv_iload_n (pc := 88) hx hb dC_Frm_joined_88 rfl (lv_at hl 3 rfl) ?_
  refine lv_if_ne (pc := 89) (tgt := 99) hx hb dC_Frm_joined_89 (by decide) (fun hc => ?_) (fun hc => ?_)
  · replace hM := it_f hc hM
    refine lv_iload_n (pc := 99) hx hb dC_Frm_joined_99 rfl (lv_at hl 1 rfl) ?_
    refine lv_bipush (pc := 100) (v := 47) hx hb dC_Frm_joined_100 (by decide) ?_
    refine lv_icmp_ne (pc := 102) (tgt := 111) hx hb dC_Frm_joined_102 (by decide) (fun hc => ?_) (fun hc => ?_)
    · replace hM := it_f hc hM
      refine lv_iload_n (pc := 111) hx hb dC_Frm_joined_111 rfl (lv_at hl 2 rfl) ?_
      refine lv_iload_n (pc := 112) hx hb dC_Frm_joined_112 rfl (lv_at hl 3 rfl) ?_
      obtain ⟨hg1, hM⟩ := gd_some hM
      refine lv_irem (pc := 113) hx hb dC_Frm_joined_113 (nz_ne hg1) ?_
      exact bC_Frm_joined_114  C  _ _ _ _ _ _ hM _ _ hW _ (lv_sub hl [] rfl)
    · replace hM := it_t hc hM
      refine lv_iload_n (pc := 105) hx hb dC_Frm_joined_105 rfl (lv_at hl 2 rfl) ?_
      refine lv_iload_n (pc := 106) hx hb dC_Frm_joined_106 rfl (lv_at hl 3 rfl) ?_
      obtain ⟨hg2, hM⟩ := gd_some hM
      refine lv_idiv (pc := 107) hx hb dC_Frm_joined_107 (nz_ne hg2) ?_
      refine lv_goto (pc := 108) (tgt := 114) hx hb dC_Frm_joined_108 (by decide) ?_
      exact bC_Frm_joined_114  C  _ _ _ _ _ _ hM _ _ hW _ (lv_sub hl [] rfl)
  · replace hM := it_t hc hM
    refine lv_aload_n (pc := 92) hx hb dC_Frm_joined_92 rfl (lv_at hl 0 rfl) ?_
    refine lv_iconst (pc := 93) (v := 1) hx hb dC_Frm_joined_93 (by decide) ?_
    refine x_putC (pc := 94) (ty := .boolean) (Ws' := (w_Frm dA o b i (cF sF 5 (1 : Int32)) sN sT sP sI)) C hW 0 rfl (ci := 7) rfl i_Frm tok_Frm n_Frm 12 (by decide) qc_477 rfl rfl (by decide +kernel) rfl rfl (Nat.le_of_ble_eq_true rfl) rfl dC_Frm_joined_94 (fun H locs hW => ?_)
    obtain ⟨sF3, esF3, hM⟩ := bnd_some hM
    rw [← esF3] at hW
    refine lv_iconst (pc := 97) (v := 0) hx hb dC_Frm_joined_97 (by decide) ?_
    obtain ⟨rfl, rfl⟩ := sm_p hM
    exact x_retCi (pc := 98) C rfl hW ⟨rfl, rfl⟩ (Nat.le_refl 0) (Nat.le_refl 0) dC_Frm_joined_98
def C_Frm_joined (x1 : Int32) (x2 : Int32) (x3 : Int32) (sF : CS) (sN : CS) (sT : CS) (sP : CS) (sI : CS) : Option (Int32 × CS) :=
  (if x1 = (37 : Int32) then C_Frm_joined_88  x1 x2 x3 sF sN sT sP sI else (if x1 = (38 : Int32) then some (x2 &&& x3, sF) else (if x1 = (42 : Int32) then some (x2 * x3, sF) else (if x1 = (43 : Int32) then some (x2 + x3, sF) else (if x1 = (45 : Int32) then some (x2 - x3, sF) else (if x1 = (47 : Int32) then C_Frm_joined_88  x1 x2 x3 sF sN sT sP sI else (if x1 = (60 : Int32) then some (x2 <<< (x3 &&& 31), sF) else (if x1 = (62 : Int32) then some (x2 >>> (x3 &&& 31), sF) else (if x1 = (94 : Int32) then some (x2 ^^^ x3, sF) else some (x2 ||| x3, sF))))))))))
set_option maxHeartbeats 4000000 in
set_option maxRecDepth 100000 in
theorem bC_Frm_joined_0  {r : Int32} {u : CS} (C : CxC R_Frm p s m args meth c cC_Frm_joined 4 (some .int) D dA (zz o) A) (x1 : Int32) (x2 : Int32) (x3 : Int32) (sF : CS) (sN : CS) (sT : CS) (sP : CS) (sI : CS) (hM : C_Frm_joined  x1 x2 x3 sF sN sT sP sI = some (r, u)) (H : Heap) (locs : List Loc) (hW : WdC D A s (w_Frm dA o b i sF sN sT sP sI) H locs) (ls : Array Slot) (hl : lv_has ls 4 [(0, .ref (o 96)), (1, .int x1), (2, .int x2), (3, .int x3)]) : W p l e (rmC 0 0 0 0) s m args below meth c H locs 0 0 (MQ below (QC D A (fun Ws' ov => Ws' = (w_Frm dA o b i u sN sT sP sI) ∧ ov = (some (.int r)))) args s 0 0 A) (F0 m 0 ls []) := by
  have hx := C.1.1
  have hb := C.1.2.1
  have hown := C.1.2.2.2.2.1
  have hT := C.1.2.2.2.2.2.1
  unfold C_Frm_joined at hM
  refine lv_iload_n (pc := 0) hx hb dC_Frm_joined_0 rfl (lv_at hl 1 rfl) ?_
  by_cases k1_0 : x1 = (37 : Int32)
  · replace hM := it_t k1_0 hM
    refine lv_lookup (pc := 1) (off := 87) (tgt := 88) hx hb dC_Frm_joined_1 (by decide) (by rw [k1_0]; decide) (by decide) ?_
    exact bC_Frm_joined_88  C  _ _ _ _ _ _ _ _ hM _ _ hW _ (lv_sub hl [0, 1, 2, 3] rfl)
  · replace hM := it_f k1_0 hM
    by_cases k1_1 : x1 = (38 : Int32)
    · replace hM := it_t k1_1 hM
      refine lv_lookup (pc := 1) (off := 130) (tgt := 131) hx hb dC_Frm_joined_1 (by decide) (by rw [k1_1]; decide) (by decide) ?_
      refine lv_iload_n (pc := 131) hx hb dC_Frm_joined_131 rfl (lv_at hl 2 rfl) ?_
      refine lv_iload_n (pc := 132) hx hb dC_Frm_joined_132 rfl (lv_at hl 3 rfl) ?_
      refine lv_iand (pc := 133) hx hb dC_Frm_joined_133 ?_
      obtain ⟨rfl, rfl⟩ := sm_p hM
      exact x_retCi (pc := 134) C rfl hW ⟨rfl, rfl⟩ (Nat.le_refl 0) (Nat.le_refl 0) dC_Frm_joined_134
    · replace hM := it_f k1_1 hM
      by_cases k1_2 : x1 = (42 : Int32)
      · replace hM := it_t k1_2 hM
        refine lv_lookup (pc := 1) (off := 83) (tgt := 84) hx hb dC_Frm_joined_1 (by decide) (by rw [k1_2]; decide) (by decide) ?_
        refine lv_iload_n (pc := 84) hx hb dC_Frm_joined_84 rfl (lv_at hl 2 rfl) ?_
        refine lv_iload_n (pc := 85) hx hb dC_Frm_joined_85 rfl (lv_at hl 3 rfl) ?_
        refine lv_imul (pc := 86) hx hb dC_Frm_joined_86 ?_
        obtain ⟨rfl, rfl⟩ := sm_p hM
        exact x_retCi (pc := 87) C rfl hW ⟨rfl, rfl⟩ (Nat.le_refl 0) (Nat.le_refl 0) dC_Frm_joined_87
      · replace hM := it_f k1_2 hM
        by_cases k1_3 : x1 = (43 : Int32)
        · replace hM := it_t k1_3 hM
          refine lv_lookup (pc := 1) (off := 114) (tgt := 115) hx hb dC_Frm_joined_1 (by decide) (by rw [k1_3]; decide) (by decide) ?_
          refine lv_iload_n (pc := 115) hx hb dC_Frm_joined_115 rfl (lv_at hl 2 rfl) ?_
          refine lv_iload_n (pc := 116) hx hb dC_Frm_joined_116 rfl (lv_at hl 3 rfl) ?_
          refine lv_iadd (pc := 117) hx hb dC_Frm_joined_117 ?_
          obtain ⟨rfl, rfl⟩ := sm_p hM
          exact x_retCi (pc := 118) C rfl hW ⟨rfl, rfl⟩ (Nat.le_refl 0) (Nat.le_refl 0) dC_Frm_joined_118
        · replace hM := it_f k1_3 hM
          by_cases k1_4 : x1 = (45 : Int32)
          · replace hM := it_t k1_4 hM
            refine lv_lookup (pc := 1) (off := 118) (tgt := 119) hx hb dC_Frm_joined_1 (by decide) (by rw [k1_4]; decide) (by decide) ?_
            refine lv_iload_n (pc := 119) hx hb dC_Frm_joined_119 rfl (lv_at hl 2 rfl) ?_
            refine lv_iload_n (pc := 120) hx hb dC_Frm_joined_120 rfl (lv_at hl 3 rfl) ?_
            refine lv_isub (pc := 121) hx hb dC_Frm_joined_121 ?_
            obtain ⟨rfl, rfl⟩ := sm_p hM
            exact x_retCi (pc := 122) C rfl hW ⟨rfl, rfl⟩ (Nat.le_refl 0) (Nat.le_refl 0) dC_Frm_joined_122
          · replace hM := it_f k1_4 hM
            by_cases k1_5 : x1 = (47 : Int32)
            · replace hM := it_t k1_5 hM
              refine lv_lookup (pc := 1) (off := 87) (tgt := 88) hx hb dC_Frm_joined_1 (by decide) (by rw [k1_5]; decide) (by decide) ?_
              exact bC_Frm_joined_88  C  _ _ _ _ _ _ _ _ hM _ _ hW _ (lv_sub hl [0, 1, 2, 3] rfl)
            · replace hM := it_f k1_5 hM
              by_cases k1_6 : x1 = (60 : Int32)
              · replace hM := it_t k1_6 hM
                refine lv_lookup (pc := 1) (off := 122) (tgt := 123) hx hb dC_Frm_joined_1 (by decide) (by rw [k1_6]; decide) (by decide) ?_
                refine lv_iload_n (pc := 123) hx hb dC_Frm_joined_123 rfl (lv_at hl 2 rfl) ?_
                refine lv_iload_n (pc := 124) hx hb dC_Frm_joined_124 rfl (lv_at hl 3 rfl) ?_
                refine lv_ishl (pc := 125) hx hb dC_Frm_joined_125 ?_
                obtain ⟨rfl, rfl⟩ := sm_p hM
                exact x_retCi (pc := 126) C rfl hW ⟨rfl, rfl⟩ (Nat.le_refl 0) (Nat.le_refl 0) dC_Frm_joined_126
              · replace hM := it_f k1_6 hM
                by_cases k1_7 : x1 = (62 : Int32)
                · replace hM := it_t k1_7 hM
                  refine lv_lookup (pc := 1) (off := 126) (tgt := 127) hx hb dC_Frm_joined_1 (by decide) (by rw [k1_7]; decide) (by decide) ?_
                  refine lv_iload_n (pc := 127) hx hb dC_Frm_joined_127 rfl (lv_at hl 2 rfl) ?_
                  refine lv_iload_n (pc := 128) hx hb dC_Frm_joined_128 rfl (lv_at hl 3 rfl) ?_
                  refine lv_ishr (pc := 129) hx hb dC_Frm_joined_129 ?_
                  obtain ⟨rfl, rfl⟩ := sm_p hM
                  exact x_retCi (pc := 130) C rfl hW ⟨rfl, rfl⟩ (Nat.le_refl 0) (Nat.le_refl 0) dC_Frm_joined_130
                · replace hM := it_f k1_7 hM
                  by_cases k1_8 : x1 = (94 : Int32)
                  · replace hM := it_t k1_8 hM
                    refine lv_lookup (pc := 1) (off := 134) (tgt := 135) hx hb dC_Frm_joined_1 (by decide) (by rw [k1_8]; decide) (by decide) ?_
                    refine lv_iload_n (pc := 135) hx hb dC_Frm_joined_135 rfl (lv_at hl 2 rfl) ?_
                    refine lv_iload_n (pc := 136) hx hb dC_Frm_joined_136 rfl (lv_at hl 3 rfl) ?_
                    refine lv_ixor (pc := 137) hx hb dC_Frm_joined_137 ?_
                    obtain ⟨rfl, rfl⟩ := sm_p hM
                    exact x_retCi (pc := 138) C rfl hW ⟨rfl, rfl⟩ (Nat.le_refl 0) (Nat.le_refl 0) dC_Frm_joined_138
                  · replace hM := it_f k1_8 hM
                    refine lv_lookup (pc := 1) (off := 138) (tgt := 139) hx hb dC_Frm_joined_1 (by decide) (by rw [lv_osw k1_0 (by decide)]; rw [lv_osw k1_1 (by decide)]; rw [lv_osw k1_2 (by decide)]; rw [lv_osw k1_3 (by decide)]; rw [lv_osw k1_4 (by decide)]; rw [lv_osw k1_5 (by decide)]; rw [lv_osw k1_6 (by decide)]; rw [lv_osw k1_7 (by decide)]; rw [lv_osw k1_8 (by decide)]; rfl) (by decide) ?_
                    refine lv_iload_n (pc := 139) hx hb dC_Frm_joined_139 rfl (lv_at hl 2 rfl) ?_
                    refine lv_iload_n (pc := 140) hx hb dC_Frm_joined_140 rfl (lv_at hl 3 rfl) ?_
                    refine lv_ior (pc := 141) hx hb dC_Frm_joined_141 ?_
                    obtain ⟨rfl, rfl⟩ := sm_p hM
                    exact x_retCi (pc := 142) C rfl hW ⟨rfl, rfl⟩ (Nat.le_refl 0) (Nat.le_refl 0) dC_Frm_joined_142
theorem kC_Frm_joined (l : Launch) (D : va_G) (dA : Nat → ClassId) (o b i : Nat → Nat) (x1 : Int32) (x2 : Int32) (x3 : Int32) (sF : CS) (sN : CS) (sT : CS) (sP : CS) (sI : CS) {r : Int32} {u : CS} (hM : C_Frm_joined x1 x2 x3 sF sN sT sP sI = some (r, u)) : KC l D dA (zz o) yC_Frm_joined cC_Frm_joined 4 (some .int) 0 0 0 0 (w_Frm dA o b i sF sN sT sP sI) [.ref (o 96), .int x1, .int x2, .int x3] (fun Ws' ov => Ws' = (w_Frm dA o b i u sN sT sP sI) ∧ ov = (some (.int r))) := x_enterC (by decide +kernel) (Nat.le_of_ble_eq_true rfl) (fun p e s m args below meth c A C _ hW ls hl => bC_Frm_joined_0 C x1 x2 x3 sF sN sT sP sI hM s.heap [] hW ls hl)
def C_Frm_settleSigns_8 (N : Nat)  : Nat → Int32 → Int32 → CS → CS → CS → CS → CS → Option ((Int32 × CS) × (Nat × Nat))
  | 0 => fun _ _ _ _ _ _ _ => none
  | n + 1 => fun x1 x2 sF sN sT sP sI => (if x2 ≤ 0 then some (((0 : Int32), sF), (0, 0)) else cr (C_Row_get  (x2 - (1 : Int32)) (rg sF 2)) (fun r1 => cr (C_Frm_level  r1) (fun r2 => (if x1 ≤ r2 then ct (C_Row_add  r1 (rg sF 0)) (fun r3 u4 => bnd (rs sF 0 u4) (fun sF10 => ct (C_Row_add  (0 : Int32) (rg sF10 1)) (fun r11 u12 => bnd (rs sF10 1 u12) (fun sF18 => cl (C_Row_cut  (x2 - (1 : Int32)) (rg sF18 2)) (fun r19 u20 => bnd (rs sF18 2 u20) (fun sF21 => (C_Frm_settleSigns_8 N  n) x1 (x2 + (-1 : Int32)) sF21 sN sT sP sI)))))) else some (((0 : Int32), sF), (0, 0))))))
set_option maxHeartbeats 4000000 in
set_option maxRecDepth 100000 in
theorem bC_Frm_settleSigns_8 (N : Nat)  {r : Int32} {u : CS} {DC DS : Nat} (C : CxC R_Frm p s m args meth c cC_Frm_settleSigns 4 none D dA (zz o) A) : ∀ (n : Nat) (x1 : Int32) (x2 : Int32) (sF : CS) (sN : CS) (sT : CS) (sP : CS) (sI : CS) (dc ds kc ks : Nat) , C_Frm_settleSigns_8 N  n x1 x2 sF sN sT sP sI = some ((r, u), (dc, ds)) → ∀ (hdc : kc + dc ≤ DC) (hds : ks + ds ≤ DS) (b : Nat → Nat) (H : Heap) (locs : List Loc) (hW : WdC D A s (w_Frm dA o b i sF sN sT sP sI) H locs) (ls : Array Slot) (hl : lv_has ls 4 [(0, .ref (o 96)), (1, .int x1), (2, .int x2)]), W p l e (rmC 3 123 DC DS) s m args below meth c H locs kc ks (MQ below (QC D A (fun Ws' ov => ∃ b' : Nat → Nat, Ws' = (w_Frm dA o b' i u sN sT sP sI) ∧ ov = none)) args s DC DS A) (F0 m 8 ls []) := by
  have hx := C.1.1
  have hb := C.1.2.1
  have hown := C.1.2.2.2.2.1
  have hT := C.1.2.2.2.2.2.1
  intro n
  induction n with
  | zero => intro x1 x2 sF sN sT sP sI dc ds kc ks hM; cases hM
  | succ n hrec8 =>
    intro x1 x2 sF sN sT sP sI dc ds kc ks hM hdc hds b H locs hW ls hl
    rw [C_Frm_settleSigns_8] at hM
    refine lv_iload_n (pc := 8) hx hb dC_Frm_settleSigns_8 rfl (lv_at hl 2 rfl) ?_
    refine lv_if_le (pc := 9) (tgt := 64) hx hb dC_Frm_settleSigns_9 (by decide) (fun hc => ?_) (fun hc => ?_)
    · replace hM := it_t hc hM
      obtain ⟨rfl, rfl, rfl, rfl⟩ := sm_q hM
      exact x_retCv (pc := 64) C rfl hW ⟨_, rfl, rfl⟩ (by omega) (by omega) dC_Frm_settleSigns_64
    · replace hM := it_f hc hM
      refine lv_aload_n (pc := 12) hx hb dC_Frm_settleSigns_12 rfl (lv_at hl 0 rfl) ?_
      refine x_getC (pc := 13) C hW 0 rfl (ci := 7) rfl i_Frm 7 (by decide) qc_472 rfl rfl dC_Frm_settleSigns_13 ?_
      refine lv_iload_n (pc := 16) hx hb dC_Frm_settleSigns_16 rfl (lv_at hl 2 rfl) ?_
      refine lv_iconst (pc := 17) (v := 1) hx hb dC_Frm_settleSigns_17 (by decide) ?_
      refine lv_isub (pc := 18) hx hb dC_Frm_settleSigns_18 ?_
      obtain ⟨r1, hr1, hM⟩ := cr_some hM
      refine x_callQ (pc := 19) (n' := 40) (ov := some (.int r1)) C hW (kC_Row_get l D dA (zz o) (fun _ => o 99) (fun _ => b 99)  (x2 - (1 : Int32)) (rg sF 2) hr1) [5, 6, 0, 1, 2, 3, 4, 7, 8, 9, 10, 11, 12, 13, 14, 15, 16, 17, 18, 19, 20, 21, 22, 23, 24, 25, 26, 27, 28, 29, 30, 31, 32, 33, 34, 35, 36, 37, 38, 39] rfl (by decide +kernel) rfl (ci := 1) rfl (q0 := 5) rfl gC_Frm_110 ⟨rfl, by decide, by decide, by decide +kernel⟩ ⟨Nat.le_of_ble_eq_true rfl, Nat.le_of_ble_eq_true rfl⟩ ⟨show _ ≤ DC by omega, show _ ≤ DS by omega⟩ (As := [.int (x2 - (1 : Int32))]) (n := 1) rfl hl.1 rfl (Nat.le_of_ble_eq_true rfl) dC_Frm_settleSigns_19 ?_
      refine lv_istore_n (pc := 22) (lv' := [(3, .int r1), (0, .ref (o 96)), (1, .int x1), (2, .int x2)]) hx hb dC_Frm_settleSigns_22 rfl hl (by decide) rfl (fun ls hl => ?_)
      refine lv_iload_n (pc := 23) hx hb dC_Frm_settleSigns_23 rfl (lv_at hl 0 rfl) ?_
      obtain ⟨r2, hr2, hM⟩ := cr_some hM
      refine x_callU (pc := 24) (ov := some (.int r2)) C.1 (kC_Frm_level l  r1 hr2) qc_1170 qc_1168 qc_1169 qc_20 ⟨by decide, by decide, by decide +kernel⟩ ⟨rfl, rfl⟩ ⟨Nat.le_of_ble_eq_true rfl, Nat.le_of_ble_eq_true rfl⟩ ⟨show _ ≤ DC by omega, show _ ≤ DS by omega⟩ (As := [.int r1]) (n := 1) rfl hl.1 rfl (Nat.le_of_ble_eq_true rfl) dC_Frm_settleSigns_24 ?_
      refine lv_iload_n (pc := 27) hx hb dC_Frm_settleSigns_27 rfl (lv_at hl 2 rfl) ?_
      refine lv_icmp_ge (pc := 28) (tgt := 32) hx hb dC_Frm_settleSigns_28 (by decide) (fun hc => ?_) (fun hc => ?_)
      · replace hM := it_t hc hM
        refine lv_aload_n (pc := 32) hx hb dC_Frm_settleSigns_32 rfl (lv_at hl 1 rfl) ?_
        refine x_getC (pc := 33) C hW 0 rfl (ci := 7) rfl i_Frm 5 (by decide) qc_470 rfl rfl dC_Frm_settleSigns_33 ?_
        refine lv_iload_n (pc := 36) hx hb dC_Frm_settleSigns_36 rfl (lv_at hl 0 rfl) ?_
        obtain ⟨r3, u4, da5, ea6, db7, eb8, hr3, hM, hqda5, hpda5⟩ := ct_some hM
        refine x_callC (pc := 37) (n' := 40) C hW (kC_Row_add l D dA (zz o) (fun _ => o 97) (fun _ => b 97)  r1 (rg sF 0) hr3) [1, 2, 0, 3, 4, 5, 6, 7, 8, 9, 10, 11, 12, 13, 14, 15, 16, 17, 18, 19, 20, 21, 22, 23, 24, 25, 26, 27, 28, 29, 30, 31, 32, 33, 34, 35, 36, 37, 38, 39] rfl (by decide +kernel) rfl (ci := 1) rfl (q0 := 1) rfl gC_Frm_93 ⟨rfl, by decide, by decide, by decide +kernel⟩ ⟨Nat.le_of_ble_eq_true rfl, Nat.le_of_ble_eq_true rfl⟩ ⟨show _ + da5 ≤ DC by omega, show _ + ea6 ≤ DS by omega⟩ (As := [.int r1]) (n := 1) rfl hl.1 rfl (Nat.le_of_ble_eq_true rfl) dC_Frm_settleSigns_37 (fun Wc' ov H locs hPo hWn => ?_)
        obtain ⟨b9, rfl, rfl⟩ := hPo
        have hW := hWn (w_Frm dA o (uN b 97 (b9 0)) i (rs sF 0 u4) sN sT sP sI) rfl rfl
        generalize uN b 97 (b9 0) = b at hW
        obtain ⟨sF10, esF10, hM⟩ := bnd_some hM
        rw [← esF10] at hW
        refine lv_aload_n (pc := 40) hx hb dC_Frm_settleSigns_40 rfl (lv_at hl 1 rfl) ?_
        refine x_getC (pc := 41) C hW 0 rfl (ci := 7) rfl i_Frm 6 (by decide) qc_471 rfl rfl dC_Frm_settleSigns_41 ?_
        refine lv_iconst (pc := 44) (v := 0) hx hb dC_Frm_settleSigns_44 (by decide) ?_
        obtain ⟨r11, u12, da13, ea14, db15, eb16, hr11, hM, hqda13, hpda13⟩ := ct_some hM
        refine x_callC (pc := 45) (n' := 40) C hW (kC_Row_add l D dA (zz o) (fun _ => o 98) (fun _ => b 98)  (0 : Int32) (rg sF10 1) hr11) [3, 4, 0, 1, 2, 5, 6, 7, 8, 9, 10, 11, 12, 13, 14, 15, 16, 17, 18, 19, 20, 21, 22, 23, 24, 25, 26, 27, 28, 29, 30, 31, 32, 33, 34, 35, 36, 37, 38, 39] rfl (by decide +kernel) rfl (ci := 1) rfl (q0 := 3) rfl gC_Frm_93 ⟨rfl, by decide, by decide, by decide +kernel⟩ ⟨Nat.le_of_ble_eq_true rfl, Nat.le_of_ble_eq_true rfl⟩ ⟨show _ + da13 ≤ DC by omega, show _ + ea14 ≤ DS by omega⟩ (As := [.int (0 : Int32)]) (n := 1) rfl hl.1 rfl (Nat.le_of_ble_eq_true rfl) dC_Frm_settleSigns_45 (fun Wc' ov H locs hPo hWn => ?_)
        obtain ⟨b17, rfl, rfl⟩ := hPo
        have hW := hWn (w_Frm dA o (uN b 98 (b17 0)) i (rs sF10 1 u12) sN sT sP sI) rfl rfl
        generalize uN b 98 (b17 0) = b at hW
        obtain ⟨sF18, esF18, hM⟩ := bnd_some hM
        rw [← esF18] at hW
        refine lv_aload_n (pc := 48) hx hb dC_Frm_settleSigns_48 rfl (lv_at hl 1 rfl) ?_
        refine x_getC (pc := 49) C hW 0 rfl (ci := 7) rfl i_Frm 7 (by decide) qc_472 rfl rfl dC_Frm_settleSigns_49 ?_
        refine lv_iload_n (pc := 52) hx hb dC_Frm_settleSigns_52 rfl (lv_at hl 3 rfl) ?_
        refine lv_iconst (pc := 53) (v := 1) hx hb dC_Frm_settleSigns_53 (by decide) ?_
        refine lv_isub (pc := 54) hx hb dC_Frm_settleSigns_54 ?_
        obtain ⟨r19, u20, hr19, hM⟩ := cl_some hM
        refine x_callC (pc := 55) (n' := 40) C hW (kC_Row_cut l D dA (zz o) (fun _ => o 99) (fun _ => b 99)  (x2 - (1 : Int32)) (rg sF18 2) hr19) [5, 6, 0, 1, 2, 3, 4, 7, 8, 9, 10, 11, 12, 13, 14, 15, 16, 17, 18, 19, 20, 21, 22, 23, 24, 25, 26, 27, 28, 29, 30, 31, 32, 33, 34, 35, 36, 37, 38, 39] rfl (by decide +kernel) rfl (ci := 1) rfl (q0 := 5) rfl gC_Frm_66 ⟨rfl, by decide, by decide, by decide +kernel⟩ ⟨Nat.le_of_ble_eq_true rfl, Nat.le_of_ble_eq_true rfl⟩ ⟨show _ + 0 ≤ DC by omega, show _ + 0 ≤ DS by omega⟩ (As := [.int (x2 - (1 : Int32))]) (n := 1) rfl hl.1 rfl (Nat.le_of_ble_eq_true rfl) dC_Frm_settleSigns_55 (fun Wc' ov H locs hPo hWn => ?_)
        obtain ⟨rfl, rfl⟩ := hPo
        have hW := hWn (w_Frm dA o b i (rs sF18 2 u20) sN sT sP sI) rfl rfl
        obtain ⟨sF21, esF21, hM⟩ := bnd_some hM
        rw [← esF21] at hW
        refine lv_iinc (pc := 58) (v := x2 + (-1 : Int32)) (lv' := [(2, .int (x2 + (-1 : Int32))), (3, .int r1), (0, .ref (o 96)), (1, .int x1)]) hx hb dC_Frm_settleSigns_58 hl (k := 3) rfl rfl (by decide) rfl (fun ls hl => ?_)
        refine lv_goto (pc := 61) (tgt := 8) hx hb dC_Frm_settleSigns_61 (by decide) ?_
        exact hrec8 _ _ _ _ _ _ _ _ _ _ _ hM (by omega) (by omega) _ _ _ hW _ (lv_sub hl [2, 3, 0] rfl)
      · replace hM := it_f hc hM
        obtain ⟨rfl, rfl, rfl, rfl⟩ := sm_q hM
        exact x_retCv (pc := 31) C rfl hW ⟨_, rfl, rfl⟩ (by omega) (by omega) dC_Frm_settleSigns_31
def C_Frm_settleSigns (N : Nat) (x1 : Int32) (sF : CS) (sN : CS) (sT : CS) (sP : CS) (sI : CS) : Option ((Int32 × CS) × (Nat × Nat)) :=
  C_Frm_settleSigns_8 N  N x1 (sF.1 102) sF sN sT sP sI
set_option maxHeartbeats 4000000 in
set_option maxRecDepth 100000 in
theorem bC_Frm_settleSigns_0 (N : Nat)  {r : Int32} {u : CS} {DC DS : Nat} (C : CxC R_Frm p s m args meth c cC_Frm_settleSigns 4 none D dA (zz o) A) (x1 : Int32) (sF : CS) (sN : CS) (sT : CS) (sP : CS) (sI : CS) (dc ds kc ks : Nat) (hM : C_Frm_settleSigns N  x1 sF sN sT sP sI = some ((r, u), (dc, ds))) (hdc : kc + dc ≤ DC) (hds : ks + ds ≤ DS) (b : Nat → Nat) (H : Heap) (locs : List Loc) (hW : WdC D A s (w_Frm dA o b i sF sN sT sP sI) H locs) (ls : Array Slot) (hl : lv_has ls 4 [(0, .ref (o 96)), (1, .int x1)]) : W p l e (rmC 3 123 DC DS) s m args below meth c H locs kc ks (MQ below (QC D A (fun Ws' ov => ∃ b' : Nat → Nat, Ws' = (w_Frm dA o b' i u sN sT sP sI) ∧ ov = none)) args s DC DS A) (F0 m 0 ls []) := by
  have hx := C.1.1
  have hb := C.1.2.1
  have hown := C.1.2.2.2.2.1
  have hT := C.1.2.2.2.2.2.1
  unfold C_Frm_settleSigns at hM
  refine lv_aload_n (pc := 0) hx hb dC_Frm_settleSigns_0 rfl (lv_at hl 0 rfl) ?_
  refine x_getC (pc := 1) C hW 0 rfl (ci := 7) rfl i_Frm 7 (by decide) qc_472 rfl rfl dC_Frm_settleSigns_1 ?_
  refine x_getC (pc := 4) C hW 5 rfl (ci := 1) rfl i_Row 0 (by decide) qc_56 rfl rfl dC_Frm_settleSigns_4 ?_
  refine lv_istore_n (pc := 7) (lv' := [(2, .int (sF.1 102)), (0, .ref (o 96)), (1, .int x1)]) hx hb dC_Frm_settleSigns_7 rfl hl (by decide) rfl (fun ls hl => ?_)
  exact bC_Frm_settleSigns_8 N  C  N _ _ _ _ _ _ _ _ _ _ _ hM (by omega) (by omega) _ _ _ hW _ (lv_sub hl [1, 2, 0] rfl)
theorem kC_Frm_settleSigns (l : Launch) (D : va_G) (dA : Nat → ClassId) (o b i : Nat → Nat) (N : Nat) (x1 : Int32) (sF : CS) (sN : CS) (sT : CS) (sP : CS) (sI : CS) {r : Int32} {u : CS} {dc ds : Nat} (hM : C_Frm_settleSigns N x1 sF sN sT sP sI = some ((r, u), (dc, ds))) : KC l D dA (zz o) yC_Frm_settleSigns cC_Frm_settleSigns 4 none 3 123 dc ds (w_Frm dA o b i sF sN sT sP sI) [.ref (o 96), .int x1] (fun Ws' ov => ∃ b' : Nat → Nat, Ws' = (w_Frm dA o b' i u sN sT sP sI) ∧ ov = none) := x_enterC (by decide +kernel) (Nat.le_of_ble_eq_true rfl) (fun p e s m args below meth c A C _ hW ls hl => bC_Frm_settleSigns_0 N C x1 sF sN sT sP sI dc ds 0 0 hM (by omega) (by omega) b s.heap [] hW ls hl)
def C_Frm_takeOperand_220 (x2 : Int32) (x3 : Int32) (sF : CS) (sN : CS) (sT : CS) (sP : CS) (sI : CS) : Option ((Int32 × CS) × (Nat × Nat)) :=
  ct (C_Row_add  x2 (rg sF 0)) (fun r1 u2 => bnd (rs sF 0 u2) (fun sF8 => ct (C_Row_add  x3 (rg sF8 1)) (fun r9 u10 => bnd (rs sF8 1 u10) (fun sF16 => bnd (cF sF16 2 (0 : Int32)) (fun sF17 => some (((1 : Int32), sF17), (0, 0)))))))
set_option maxHeartbeats 4000000 in
set_option maxRecDepth 100000 in
theorem bC_Frm_takeOperand_220  {r : Int32} {u : CS} {DC DS : Nat} (C : CxC R_Frm p s m args meth c cC_Frm_takeOperand 4 (some .boolean) D dA (zz o) A) (x2 : Int32) (x3 : Int32) (sF : CS) (sN : CS) (sT : CS) (sP : CS) (sI : CS) (dc ds kc ks : Nat) (hM : C_Frm_takeOperand_220  x2 x3 sF sN sT sP sI = some ((r, u), (dc, ds))) (hdc : kc + dc ≤ DC) (hds : ks + ds ≤ DS) (b : Nat → Nat) (H : Heap) (locs : List Loc) (hW : WdC D A s (w_Frm dA o b i sF sN sT sP sI) H locs) (ls : Array Slot) (hl : lv_has ls 4 [(0, .ref (o 96)), (2, .int x2), (3, .int x3)]) : W p l e (rmC 3 123 DC DS) s m args below meth c H locs kc ks (MQ below (QC D A (fun Ws' ov => ∃ b' : Nat → Nat, Ws' = (w_Frm dA o b' i u sN sT sP sI) ∧ ov = (some (.int r)))) args s DC DS A) (F0 m 220 ls []) := by
  have hx := C.1.1
  have hb := C.1.2.1
  have hown := C.1.2.2.2.2.1
  have hT := C.1.2.2.2.2.2.1
  unfold C_Frm_takeOperand_220 at hM
  refine lv_aload_n (pc := 220) hx hb dC_Frm_takeOperand_220 rfl (lv_at hl 0 rfl) ?_
  refine x_getC (pc := 221) C hW 0 rfl (ci := 7) rfl i_Frm 5 (by decide) qc_470 rfl rfl dC_Frm_takeOperand_221 ?_
  refine lv_iload_n (pc := 224) hx hb dC_Frm_takeOperand_224 rfl (lv_at hl 1 rfl) ?_
  obtain ⟨r1, u2, da3, ea4, db5, eb6, hr1, hM, hqda3, hpda3⟩ := ct_some hM
  refine x_callC (pc := 225) (n' := 40) C hW (kC_Row_add l D dA (zz o) (fun _ => o 97) (fun _ => b 97)  x2 (rg sF 0) hr1) [1, 2, 0, 3, 4, 5, 6, 7, 8, 9, 10, 11, 12, 13, 14, 15, 16, 17, 18, 19, 20, 21, 22, 23, 24, 25, 26, 27, 28, 29, 30, 31, 32, 33, 34, 35, 36, 37, 38, 39] rfl (by decide +kernel) rfl (ci := 1) rfl (q0 := 1) rfl gC_Frm_93 ⟨rfl, by decide, by decide, by decide +kernel⟩ ⟨Nat.le_of_ble_eq_true rfl, Nat.le_of_ble_eq_true rfl⟩ ⟨show _ + da3 ≤ DC by omega, show _ + ea4 ≤ DS by omega⟩ (As := [.int x2]) (n := 1) rfl hl.1 rfl (Nat.le_of_ble_eq_true rfl) dC_Frm_takeOperand_225 (fun Wc' ov H locs hPo hWn => ?_)
  obtain ⟨b7, rfl, rfl⟩ := hPo
  have hW := hWn (w_Frm dA o (uN b 97 (b7 0)) i (rs sF 0 u2) sN sT sP sI) rfl rfl
  generalize uN b 97 (b7 0) = b at hW
  obtain ⟨sF8, esF8, hM⟩ := bnd_some hM
  rw [← esF8] at hW
  refine lv_aload_n (pc := 228) hx hb dC_Frm_takeOperand_228 rfl (lv_at hl 0 rfl) ?_
  refine x_getC (pc := 229) C hW 0 rfl (ci := 7) rfl i_Frm 6 (by decide) qc_471 rfl rfl dC_Frm_takeOperand_229 ?_
  refine lv_iload_n (pc := 232) hx hb dC_Frm_takeOperand_232 rfl (lv_at hl 2 rfl) ?_
  obtain ⟨r9, u10, da11, ea12, db13, eb14, hr9, hM, hqda11, hpda11⟩ := ct_some hM
  refine x_callC (pc := 233) (n' := 40) C hW (kC_Row_add l D dA (zz o) (fun _ => o 98) (fun _ => b 98)  x3 (rg sF8 1) hr9) [3, 4, 0, 1, 2, 5, 6, 7, 8, 9, 10, 11, 12, 13, 14, 15, 16, 17, 18, 19, 20, 21, 22, 23, 24, 25, 26, 27, 28, 29, 30, 31, 32, 33, 34, 35, 36, 37, 38, 39] rfl (by decide +kernel) rfl (ci := 1) rfl (q0 := 3) rfl gC_Frm_93 ⟨rfl, by decide, by decide, by decide +kernel⟩ ⟨Nat.le_of_ble_eq_true rfl, Nat.le_of_ble_eq_true rfl⟩ ⟨show _ + da11 ≤ DC by omega, show _ + ea12 ≤ DS by omega⟩ (As := [.int x3]) (n := 1) rfl hl.1 rfl (Nat.le_of_ble_eq_true rfl) dC_Frm_takeOperand_233 (fun Wc' ov H locs hPo hWn => ?_)
  obtain ⟨b15, rfl, rfl⟩ := hPo
  have hW := hWn (w_Frm dA o (uN b 98 (b15 0)) i (rs sF8 1 u10) sN sT sP sI) rfl rfl
  generalize uN b 98 (b15 0) = b at hW
  obtain ⟨sF16, esF16, hM⟩ := bnd_some hM
  rw [← esF16] at hW
  refine lv_aload_n (pc := 236) hx hb dC_Frm_takeOperand_236 rfl (lv_at hl 0 rfl) ?_
  refine lv_iconst (pc := 237) (v := 0) hx hb dC_Frm_takeOperand_237 (by decide) ?_
  refine x_putC (pc := 238) (ty := .boolean) (Ws' := (w_Frm dA o b i (cF sF16 2 (0 : Int32)) sN sT sP sI)) C hW 0 rfl (ci := 7) rfl i_Frm tok_Frm n_Frm 9 (by decide) qc_474 rfl rfl (by decide +kernel) rfl rfl (Nat.le_of_ble_eq_true rfl) rfl dC_Frm_takeOperand_238 (fun H locs hW => ?_)
  obtain ⟨sF17, esF17, hM⟩ := bnd_some hM
  rw [← esF17] at hW
  refine lv_iconst (pc := 241) (v := 1) hx hb dC_Frm_takeOperand_241 (by decide) ?_
  obtain ⟨rfl, rfl, rfl, rfl⟩ := sm_q hM
  exact x_retCz (pc := 242) C rfl rfl hW ⟨_, rfl, rfl⟩ (by omega) (by omega) dC_Frm_takeOperand_242
def C_Frm_takeOperand_136 (x2 : Int32) (x3 : Int32) (t1 : Int32) (sF : CS) (sN : CS) (sT : CS) (sP : CS) (sI : CS) : Option ((Int32 × CS) × (Nat × Nat)) :=
  gd (isB t1) (bnd (cF sF 0 t1) (fun sF2 => C_Frm_takeOperand_220  x2 x3 sF2 sN sT sP sI))
set_option maxHeartbeats 4000000 in
set_option maxRecDepth 100000 in
theorem bC_Frm_takeOperand_136  {r : Int32} {u : CS} {DC DS : Nat} (C : CxC R_Frm p s m args meth c cC_Frm_takeOperand 4 (some .boolean) D dA (zz o) A) (x2 : Int32) (x3 : Int32) (t1 : Int32) (sF : CS) (sN : CS) (sT : CS) (sP : CS) (sI : CS) (dc ds kc ks : Nat) (hM : C_Frm_takeOperand_136  x2 x3 t1 sF sN sT sP sI = some ((r, u), (dc, ds))) (hdc : kc + dc ≤ DC) (hds : ks + ds ≤ DS) (b : Nat → Nat) (H : Heap) (locs : List Loc) (hW : WdC D A s (w_Frm dA o b i sF sN sT sP sI) H locs) (ls : Array Slot) (hl : lv_has ls 4 [(0, .ref (o 96)), (2, .int x2), (3, .int x3)]) : W p l e (rmC 3 123 DC DS) s m args below meth c H locs kc ks (MQ below (QC D A (fun Ws' ov => ∃ b' : Nat → Nat, Ws' = (w_Frm dA o b' i u sN sT sP sI) ∧ ov = (some (.int r)))) args s DC DS A) (F0 m 136 ls [.int t1, .ref (o 96)]) := by
  have hx := C.1.1
  have hb := C.1.2.1
  have hown := C.1.2.2.2.2.1
  have hT := C.1.2.2.2.2.2.1
  unfold C_Frm_takeOperand_136 at hM
  obtain ⟨hg1, hM⟩ := gd_some hM
  refine x_putC (pc := 136) (ty := .boolean) (Ws' := (w_Frm dA o b i (cF sF 0 t1) sN sT sP sI)) C hW 0 rfl (ci := 7) rfl i_Frm tok_Frm n_Frm 0 (by decide) qc_462 rfl rfl (by decide +kernel) (isB_n hg1) (isB_f hg1) (Nat.le_of_ble_eq_true rfl) rfl dC_Frm_takeOperand_136 (fun H locs hW => ?_)
  obtain ⟨sF2, esF2, hM⟩ := bnd_some hM
  rw [← esF2] at hW
  refine lv_goto (pc := 139) (tgt := 220) hx hb dC_Frm_takeOperand_139 (by decide) ?_
  exact bC_Frm_takeOperand_220  C  _ _ _ _ _ _ _ _ _ _ _ hM (by omega) (by omega) _ _ _ hW _ (lv_sub hl [0, 1, 2] rfl)
def C_Frm_takeOperand_135 (x2 : Int32) (x3 : Int32) (sF : CS) (sN : CS) (sT : CS) (sP : CS) (sI : CS) : Option ((Int32 × CS) × (Nat × Nat)) :=
  C_Frm_takeOperand_136  x2 x3 (0 : Int32) sF sN sT sP sI
set_option maxHeartbeats 4000000 in
set_option maxRecDepth 100000 in
theorem bC_Frm_takeOperand_135  {r : Int32} {u : CS} {DC DS : Nat} (C : CxC R_Frm p s m args meth c cC_Frm_takeOperand 4 (some .boolean) D dA (zz o) A) (x2 : Int32) (x3 : Int32) (sF : CS) (sN : CS) (sT : CS) (sP : CS) (sI : CS) (dc ds kc ks : Nat) (hM : C_Frm_takeOperand_135  x2 x3 sF sN sT sP sI = some ((r, u), (dc, ds))) (hdc : kc + dc ≤ DC) (hds : ks + ds ≤ DS) (b : Nat → Nat) (H : Heap) (locs : List Loc) (hW : WdC D A s (w_Frm dA o b i sF sN sT sP sI) H locs) (ls : Array Slot) (hl : lv_has ls 4 [(0, .ref (o 96)), (2, .int x2), (3, .int x3)]) : W p l e (rmC 3 123 DC DS) s m args below meth c H locs kc ks (MQ below (QC D A (fun Ws' ov => ∃ b' : Nat → Nat, Ws' = (w_Frm dA o b' i u sN sT sP sI) ∧ ov = (some (.int r)))) args s DC DS A) (F0 m 135 ls [.ref (o 96)]) := by
  have hx := C.1.1
  have hb := C.1.2.1
  have hown := C.1.2.2.2.2.1
  have hT := C.1.2.2.2.2.2.1
  unfold C_Frm_takeOperand_135 at hM
  refine lv_iconst (pc := 135) (v := 0) hx hb dC_Frm_takeOperand_135 (by decide) ?_
  exact bC_Frm_takeOperand_136  C  _ _ _ _ _ _ _ _ _ _ _ _ hM (by omega) (by omega) _ _ _ hW _ (lv_sub hl [0, 1, 2] rfl)
def C_Frm_takeOperand_102 (x3 : Int32) (t0 : Int32) (sF : CS) (sN : CS) (sT : CS) (sP : CS) (sI : CS) : Option ((Int32 × CS) × (Nat × Nat)) :=
  (if (sF.1 0) = 0 then C_Frm_takeOperand_135  t0 x3 sF sN sT sP sI else (if t0 = (2 : Int32) then cr (C_Row_get  x3 (rg sN 0)) (fun r1 => (if r1 = (2 : Int32) then C_Frm_takeOperand_136  t0 x3 (1 : Int32) sF sN sT sP sI else C_Frm_takeOperand_135  t0 x3 sF sN sT sP sI)) else C_Frm_takeOperand_135  t0 x3 sF sN sT sP sI))
set_option maxHeartbeats 4000000 in
set_option maxRecDepth 100000 in
theorem bC_Frm_takeOperand_102  {r : Int32} {u : CS} {DC DS : Nat} (C : CxC R_Frm p s m args meth c cC_Frm_takeOperand 4 (some .boolean) D dA (zz o) A) (x3 : Int32) (t0 : Int32) (sF : CS) (sN : CS) (sT : CS) (sP : CS) (sI : CS) (dc ds kc ks : Nat) (hM : C_Frm_takeOperand_102  x3 t0 sF sN sT sP sI = some ((r, u), (dc, ds))) (hdc : kc + dc ≤ DC) (hds : ks + ds ≤ DS) (b : Nat → Nat) (H : Heap) (locs : List Loc) (hW : WdC D A s (w_Frm dA o b i sF sN sT sP sI) H locs) (ls : Array Slot) (hl : lv_has ls 4 [(0, .ref (o 96)), (3, .int x3)]) : W p l e (rmC 3 123 DC DS) s m args below meth c H locs kc ks (MQ below (QC D A (fun Ws' ov => ∃ b' : Nat → Nat, Ws' = (w_Frm dA o b' i u sN sT sP sI) ∧ ov = (some (.int r)))) args s DC DS A) (F0 m 102 ls [.int t0]) := by
  have hx := C.1.1
  have hb := C.1.2.1
  have hown := C.1.2.2.2.2.1
  have hT := C.1.2.2.2.2.2.1
  unfold C_Frm_takeOperand_102 at hM
  refine lv_istore_n (pc := 102) (lv' := [(2, .int t0), (0, .ref (o 96)), (3, .int x3)]) hx hb dC_Frm_takeOperand_102 rfl hl (by decide) rfl (fun ls hl => ?_)
  refine lv_aload_n (pc := 103) hx hb dC_Frm_takeOperand_103 rfl (lv_at hl 1 rfl) ?_
  refine lv_aload_n (pc := 104) hx hb dC_Frm_takeOperand_104 rfl (lv_at hl 1 rfl) ?_
  refine x_getC (pc := 105) C hW 0 rfl (ci := 7) rfl i_Frm 0 (by decide) qc_462 rfl rfl dC_Frm_takeOperand_105 ?_
  refine lv_if_eq (pc := 108) (tgt := 135) hx hb dC_Frm_takeOperand_108 (by decide) (fun hc => ?_) (fun hc => ?_)
  · replace hM := it_t hc hM
    exact bC_Frm_takeOperand_135  C  _ _ _ _ _ _ _ _ _ _ _ hM (by omega) (by omega) _ _ _ hW _ (lv_sub hl [1, 0, 2] rfl)
  · replace hM := it_f hc hM
    refine lv_iload_n (pc := 111) hx hb dC_Frm_takeOperand_111 rfl (lv_at hl 0 rfl) ?_
    refine lv_iconst (pc := 112) (v := 2) hx hb dC_Frm_takeOperand_112 (by decide) ?_
    refine lv_icmp_ne (pc := 113) (tgt := 135) hx hb dC_Frm_takeOperand_113 (by decide) (fun hc => ?_) (fun hc => ?_)
    · replace hM := it_f hc hM
      exact bC_Frm_takeOperand_135  C  _ _ _ _ _ _ _ _ _ _ _ hM (by omega) (by omega) _ _ _ hW _ (lv_sub hl [1, 0, 2] rfl)
    · replace hM := it_t hc hM
      refine lv_aload_n (pc := 116) hx hb dC_Frm_takeOperand_116 rfl (lv_at hl 1 rfl) ?_
      refine x_getC (pc := 117) C hW 0 rfl (ci := 7) rfl i_Frm 2 (by decide) qc_467 rfl rfl dC_Frm_takeOperand_117 ?_
      refine x_getC (pc := 120) C hW 9 rfl (ci := 2) rfl i_Nam 0 (by decide) qc_216 rfl rfl dC_Frm_takeOperand_120 ?_
      refine lv_iload_n (pc := 123) hx hb dC_Frm_takeOperand_123 rfl (lv_at hl 2 rfl) ?_
      obtain ⟨r1, hr1, hM⟩ := cr_some hM
      refine x_callQ (pc := 124) (n' := 40) (ov := some (.int r1)) C hW (kC_Row_get l D dA (zz o) (fun _ => o 17) (fun _ => b 17)  x3 (rg sN 0) hr1) [10, 11, 0, 1, 2, 3, 4, 5, 6, 7, 8, 9, 12, 13, 14, 15, 16, 17, 18, 19, 20, 21, 22, 23, 24, 25, 26, 27, 28, 29, 30, 31, 32, 33, 34, 35, 36, 37, 38, 39] rfl (by decide +kernel) rfl (ci := 1) rfl (q0 := 10) rfl gC_Frm_110 ⟨rfl, by decide, by decide, by decide +kernel⟩ ⟨Nat.le_of_ble_eq_true rfl, Nat.le_of_ble_eq_true rfl⟩ ⟨show _ ≤ DC by omega, show _ ≤ DS by omega⟩ (As := [.int x3]) (n := 1) rfl hl.1 rfl (Nat.le_of_ble_eq_true rfl) dC_Frm_takeOperand_124 ?_
      refine lv_iconst (pc := 127) (v := 2) hx hb dC_Frm_takeOperand_127 (by decide) ?_
      refine lv_icmp_ne (pc := 128) (tgt := 135) hx hb dC_Frm_takeOperand_128 (by decide) (fun hc => ?_) (fun hc => ?_)
      · replace hM := it_f hc hM
        exact bC_Frm_takeOperand_135  C  _ _ _ _ _ _ _ _ _ _ _ hM (by omega) (by omega) _ _ _ hW _ (lv_sub hl [1, 0, 2] rfl)
      · replace hM := it_t hc hM
        refine lv_iconst (pc := 131) (v := 1) hx hb dC_Frm_takeOperand_131 (by decide) ?_
        refine lv_goto (pc := 132) (tgt := 136) hx hb dC_Frm_takeOperand_132 (by decide) ?_
        exact bC_Frm_takeOperand_136  C  _ _ _ _ _ _ _ _ _ _ _ _ hM (by omega) (by omega) _ _ _ hW _ (lv_sub hl [1, 0, 2] rfl)
def C_Frm_takeOperand_80 (x3 : Int32) (sF : CS) (sN : CS) (sT : CS) (sP : CS) (sI : CS) : Option ((Int32 × CS) × (Nat × Nat)) :=
  C_Frm_takeOperand_220  (3 : Int32) x3 sF sN sT sP sI
set_option maxHeartbeats 4000000 in
set_option maxRecDepth 100000 in
theorem bC_Frm_takeOperand_80  {r : Int32} {u : CS} {DC DS : Nat} (C : CxC R_Frm p s m args meth c cC_Frm_takeOperand 4 (some .boolean) D dA (zz o) A) (x3 : Int32) (sF : CS) (sN : CS) (sT : CS) (sP : CS) (sI : CS) (dc ds kc ks : Nat) (hM : C_Frm_takeOperand_80  x3 sF sN sT sP sI = some ((r, u), (dc, ds))) (hdc : kc + dc ≤ DC) (hds : ks + ds ≤ DS) (b : Nat → Nat) (H : Heap) (locs : List Loc) (hW : WdC D A s (w_Frm dA o b i sF sN sT sP sI) H locs) (ls : Array Slot) (hl : lv_has ls 4 [(0, .ref (o 96)), (3, .int x3)]) : W p l e (rmC 3 123 DC DS) s m args below meth c H locs kc ks (MQ below (QC D A (fun Ws' ov => ∃ b' : Nat → Nat, Ws' = (w_Frm dA o b' i u sN sT sP sI) ∧ ov = (some (.int r)))) args s DC DS A) (F0 m 80 ls []) := by
  have hx := C.1.1
  have hb := C.1.2.1
  have hown := C.1.2.2.2.2.1
  have hT := C.1.2.2.2.2.2.1
  unfold C_Frm_takeOperand_80 at hM
  refine lv_iconst (pc := 80) (v := 3) hx hb dC_Frm_takeOperand_80 (by decide) ?_
  refine lv_istore_n (pc := 81) (lv' := [(2, .int (3 : Int32)), (0, .ref (o 96)), (3, .int x3)]) hx hb dC_Frm_takeOperand_81 rfl hl (by decide) rfl (fun ls hl => ?_)
  refine lv_goto (pc := 82) (tgt := 220) hx hb dC_Frm_takeOperand_82 (by decide) ?_
  exact bC_Frm_takeOperand_220  C  _ _ _ _ _ _ _ _ _ _ _ hM (by omega) (by omega) _ _ _ hW _ (lv_sub hl [1, 0, 2] rfl)
def C_Frm_takeOperand_156 (x3 : Int32) (t0 : Int32) (sF : CS) (sN : CS) (sT : CS) (sP : CS) (sI : CS) : Option ((Int32 × CS) × (Nat × Nat)) :=
  cr (C_Prg_latest  (x3 >>> ((1 : Int32) &&& 31)) sP sI) (fun r1 => bnd (cF sF 0 (0 : Int32)) (fun sF2 => C_Frm_takeOperand_220  t0 r1 sF2 sN sT sP sI))
set_option maxHeartbeats 4000000 in
set_option maxRecDepth 100000 in
theorem bC_Frm_takeOperand_156  {r : Int32} {u : CS} {DC DS : Nat} (C : CxC R_Frm p s m args meth c cC_Frm_takeOperand 4 (some .boolean) D dA (zz o) A) (x3 : Int32) (t0 : Int32) (sF : CS) (sN : CS) (sT : CS) (sP : CS) (sI : CS) (dc ds kc ks : Nat) (hM : C_Frm_takeOperand_156  x3 t0 sF sN sT sP sI = some ((r, u), (dc, ds))) (hdc : kc + dc ≤ DC) (hds : ks + ds ≤ DS) (b : Nat → Nat) (H : Heap) (locs : List Loc) (hW : WdC D A s (w_Frm dA o b i sF sN sT sP sI) H locs) (ls : Array Slot) (hl : lv_has ls 4 [(0, .ref (o 96)), (3, .int x3)]) : W p l e (rmC 3 123 DC DS) s m args below meth c H locs kc ks (MQ below (QC D A (fun Ws' ov => ∃ b' : Nat → Nat, Ws' = (w_Frm dA o b' i u sN sT sP sI) ∧ ov = (some (.int r)))) args s DC DS A) (F0 m 156 ls [.int t0]) := by
  have hx := C.1.1
  have hb := C.1.2.1
  have hown := C.1.2.2.2.2.1
  have hT := C.1.2.2.2.2.2.1
  unfold C_Frm_takeOperand_156 at hM
  refine lv_istore_n (pc := 156) (lv' := [(2, .int t0), (0, .ref (o 96)), (3, .int x3)]) hx hb dC_Frm_takeOperand_156 rfl hl (by decide) rfl (fun ls hl => ?_)
  refine lv_aload_n (pc := 157) hx hb dC_Frm_takeOperand_157 rfl (lv_at hl 1 rfl) ?_
  refine x_getC (pc := 158) C hW 0 rfl (ci := 7) rfl i_Frm 4 (by decide) qc_469 rfl rfl dC_Frm_takeOperand_158 ?_
  refine lv_iload_n (pc := 161) hx hb dC_Frm_takeOperand_161 rfl (lv_at hl 2 rfl) ?_
  refine lv_iconst (pc := 162) (v := 1) hx hb dC_Frm_takeOperand_162 (by decide) ?_
  refine lv_ishr (pc := 163) hx hb dC_Frm_takeOperand_163 ?_
  obtain ⟨r1, hr1, hM⟩ := cr_some hM
  refine x_callQ (pc := 164) (n' := 40) (ov := some (.int r1)) C hW (kC_Prg_latest l D dA o b i  (x3 >>> ((1 : Int32) &&& 31)) sP sI hr1) [33, 34, 35, 36, 37, 38, 39, 0, 1, 2, 3, 4, 5, 6, 7, 8, 9, 10, 11, 12, 13, 14, 15, 16, 17, 18, 19, 20, 21, 22, 23, 24, 25, 26, 27, 28, 29, 30, 31, 32] rfl (by decide +kernel) rfl (ci := 5) rfl (q0 := 33) rfl gC_Frm_113 ⟨rfl, by decide, by decide, by decide +kernel⟩ ⟨Nat.le_of_ble_eq_true rfl, Nat.le_of_ble_eq_true rfl⟩ ⟨show _ ≤ DC by omega, show _ ≤ DS by omega⟩ (As := [.int (x3 >>> ((1 : Int32) &&& 31))]) (n := 1) rfl hl.1 rfl (Nat.le_of_ble_eq_true rfl) dC_Frm_takeOperand_164 ?_
  refine lv_istore_n (pc := 167) (lv' := [(3, .int r1), (2, .int t0), (0, .ref (o 96))]) hx hb dC_Frm_takeOperand_167 rfl hl (by decide) rfl (fun ls hl => ?_)
  refine lv_aload_n (pc := 168) hx hb dC_Frm_takeOperand_168 rfl (lv_at hl 2 rfl) ?_
  refine lv_iconst (pc := 169) (v := 0) hx hb dC_Frm_takeOperand_169 (by decide) ?_
  refine x_putC (pc := 170) (ty := .boolean) (Ws' := (w_Frm dA o b i (cF sF 0 (0 : Int32)) sN sT sP sI)) C hW 0 rfl (ci := 7) rfl i_Frm tok_Frm n_Frm 0 (by decide) qc_462 rfl rfl (by decide +kernel) rfl rfl (Nat.le_of_ble_eq_true rfl) rfl dC_Frm_takeOperand_170 (fun H locs hW => ?_)
  obtain ⟨sF2, esF2, hM⟩ := bnd_some hM
  rw [← esF2] at hW
  refine lv_goto (pc := 173) (tgt := 220) hx hb dC_Frm_takeOperand_173 (by decide) ?_
  exact bC_Frm_takeOperand_220  C  _ _ _ _ _ _ _ _ _ _ _ hM (by omega) (by omega) _ _ _ hW _ (lv_sub hl [2, 1, 0] rfl)
def C_Frm_takeOperand (x1 : Int32) (sF : CS) (sN : CS) (sT : CS) (sP : CS) (sI : CS) : Option ((Int32 × CS) × (Nat × Nat)) :=
  cr (C_Tok_value  (0 : Int32) sT) (fun r1 => (if x1 = (2 : Int32) then (if r1 = (sN.1 1) then C_Frm_takeOperand_102  r1 (7 : Int32) sF sN sT sP sI else C_Frm_takeOperand_102  r1 (2 : Int32) sF sN sT sP sI) else (if x1 = (3 : Int32) then C_Frm_takeOperand_80  r1 sF sN sT sP sI else (if x1 = (4 : Int32) then C_Frm_takeOperand_80  r1 sF sN sT sP sI else (if x1 = (5 : Int32) then (if (r1 &&& (1 : Int32)) = (1 : Int32) then C_Frm_takeOperand_156  r1 (9 : Int32) sF sN sT sP sI else C_Frm_takeOperand_156  r1 (8 : Int32) sF sN sT sP sI) else (if x1 = (40 : Int32) then ct (C_Row_add  x1 (rg sF 2)) (fun r3 u4 => bnd (rs sF 2 u4) (fun sF10 => bnd (cF sF10 3 ((sF10.1 3) + (1 : Int32))) (fun sF11 => some (((1 : Int32), sF11), (0, 0))))) else (if x1 = (45 : Int32) then ct (C_Row_add  (10 : Int32) (rg sF 2)) (fun r12 u13 => bnd (rs sF 2 u13) (fun sF19 => some (((1 : Int32), sF19), (0, 0)))) else (if x1 = (126 : Int32) then ct (C_Row_add  (11 : Int32) (rg sF 2)) (fun r20 u21 => bnd (rs sF 2 u21) (fun sF27 => some (((1 : Int32), sF27), (0, 0)))) else some (((0 : Int32), sF), (0, 0))))))))))
set_option maxHeartbeats 4000000 in
set_option maxRecDepth 100000 in
theorem bC_Frm_takeOperand_0  {r : Int32} {u : CS} {DC DS : Nat} (C : CxC R_Frm p s m args meth c cC_Frm_takeOperand 4 (some .boolean) D dA (zz o) A) (x1 : Int32) (sF : CS) (sN : CS) (sT : CS) (sP : CS) (sI : CS) (dc ds kc ks : Nat) (hM : C_Frm_takeOperand  x1 sF sN sT sP sI = some ((r, u), (dc, ds))) (hdc : kc + dc ≤ DC) (hds : ks + ds ≤ DS) (b : Nat → Nat) (H : Heap) (locs : List Loc) (hW : WdC D A s (w_Frm dA o b i sF sN sT sP sI) H locs) (ls : Array Slot) (hl : lv_has ls 4 [(0, .ref (o 96)), (1, .int x1)]) : W p l e (rmC 3 123 DC DS) s m args below meth c H locs kc ks (MQ below (QC D A (fun Ws' ov => ∃ b' : Nat → Nat, Ws' = (w_Frm dA o b' i u sN sT sP sI) ∧ ov = (some (.int r)))) args s DC DS A) (F0 m 0 ls []) := by
  have hx := C.1.1
  have hb := C.1.2.1
  have hown := C.1.2.2.2.2.1
  have hT := C.1.2.2.2.2.2.1
  unfold C_Frm_takeOperand at hM
  refine lv_iload_n (pc := 0) hx hb dC_Frm_takeOperand_0 rfl (lv_at hl 1 rfl) ?_
  refine lv_istore_n (pc := 1) (lv' := [(2, .int x1), (0, .ref (o 96)), (1, .int x1)]) hx hb dC_Frm_takeOperand_1 rfl hl (by decide) rfl (fun ls hl => ?_)
  refine lv_aload_n (pc := 2) hx hb dC_Frm_takeOperand_2 rfl (lv_at hl 1 rfl) ?_
  refine x_getC (pc := 3) C hW 0 rfl (ci := 7) rfl i_Frm 3 (by decide) qc_468 rfl rfl dC_Frm_takeOperand_3 ?_
  refine lv_iconst (pc := 6) (v := 0) hx hb dC_Frm_takeOperand_6 (by decide) ?_
  obtain ⟨r1, hr1, hM⟩ := cr_some hM
  refine x_callQ (pc := 7) (n' := 40) (ov := some (.int r1)) C hW (kC_Tok_value l D dA (zz o) o b  (0 : Int32) sT hr1) [29, 30, 31, 32, 0, 1, 2, 3, 4, 5, 6, 7, 8, 9, 10, 11, 12, 13, 14, 15, 16, 17, 18, 19, 20, 21, 22, 23, 24, 25, 26, 27, 28, 33, 34, 35, 36, 37, 38, 39] rfl (by decide +kernel) rfl (ci := 3) rfl (q0 := 29) rfl gC_Frm_99 ⟨rfl, by decide, by decide, by decide +kernel⟩ ⟨Nat.le_of_ble_eq_true rfl, Nat.le_of_ble_eq_true rfl⟩ ⟨show _ ≤ DC by omega, show _ ≤ DS by omega⟩ (As := [.int (0 : Int32)]) (n := 1) rfl hl.1 rfl (Nat.le_of_ble_eq_true rfl) dC_Frm_takeOperand_7 ?_
  refine lv_istore_n (pc := 10) (lv' := [(3, .int r1), (2, .int x1), (0, .ref (o 96)), (1, .int x1)]) hx hb dC_Frm_takeOperand_10 rfl hl (by decide) rfl (fun ls hl => ?_)
  refine lv_iload_n (pc := 11) hx hb dC_Frm_takeOperand_11 rfl (lv_at hl 3 rfl) ?_
  by_cases k2_0 : x1 = (2 : Int32)
  · replace hM := it_t k2_0 hM
    refine lv_lookup (pc := 12) (off := 73) (tgt := 85) hx hb dC_Frm_takeOperand_12 (by decide) (by rw [k2_0]; decide) (by decide) ?_
    refine lv_iload_n (pc := 85) hx hb dC_Frm_takeOperand_85 rfl (lv_at hl 0 rfl) ?_
    refine lv_aload_n (pc := 86) hx hb dC_Frm_takeOperand_86 rfl (lv_at hl 2 rfl) ?_
    refine x_getC (pc := 87) C hW 0 rfl (ci := 7) rfl i_Frm 2 (by decide) qc_467 rfl rfl dC_Frm_takeOperand_87 ?_
    refine x_getC (pc := 90) C hW 9 rfl (ci := 2) rfl i_Nam 5 (by decide) qc_226 rfl rfl dC_Frm_takeOperand_90 ?_
    refine lv_icmp_ne (pc := 93) (tgt := 101) hx hb dC_Frm_takeOperand_93 (by decide) (fun hc => ?_) (fun hc => ?_)
    · replace hM := it_f hc hM
      refine lv_iconst (pc := 101) (v := 2) hx hb dC_Frm_takeOperand_101 (by decide) ?_
      exact bC_Frm_takeOperand_102  C  _ _ _ _ _ _ _ _ _ _ _ hM (by omega) (by omega) _ _ _ hW _ (lv_sub hl [2, 0] rfl)
    · replace hM := it_t hc hM
      refine lv_bipush (pc := 96) (v := 7) hx hb dC_Frm_takeOperand_96 (by decide) ?_
      refine lv_goto (pc := 98) (tgt := 102) hx hb dC_Frm_takeOperand_98 (by decide) ?_
      exact bC_Frm_takeOperand_102  C  _ _ _ _ _ _ _ _ _ _ _ hM (by omega) (by omega) _ _ _ hW _ (lv_sub hl [2, 0] rfl)
  · replace hM := it_f k2_0 hM
    by_cases k2_1 : x1 = (3 : Int32)
    · replace hM := it_t k2_1 hM
      refine lv_lookup (pc := 12) (off := 68) (tgt := 80) hx hb dC_Frm_takeOperand_12 (by decide) (by rw [k2_1]; decide) (by decide) ?_
      exact bC_Frm_takeOperand_80  C  _ _ _ _ _ _ _ _ _ _ hM (by omega) (by omega) _ _ _ hW _ (lv_sub hl [2, 0] rfl)
    · replace hM := it_f k2_1 hM
      by_cases k2_2 : x1 = (4 : Int32)
      · replace hM := it_t k2_2 hM
        refine lv_lookup (pc := 12) (off := 68) (tgt := 80) hx hb dC_Frm_takeOperand_12 (by decide) (by rw [k2_2]; decide) (by decide) ?_
        exact bC_Frm_takeOperand_80  C  _ _ _ _ _ _ _ _ _ _ hM (by omega) (by omega) _ _ _ hW _ (lv_sub hl [2, 0] rfl)
      · replace hM := it_f k2_2 hM
        by_cases k2_3 : x1 = (5 : Int32)
        · replace hM := it_t k2_3 hM
          refine lv_lookup (pc := 12) (off := 130) (tgt := 142) hx hb dC_Frm_takeOperand_12 (by decide) (by rw [k2_3]; decide) (by decide) ?_
          refine lv_iload_n (pc := 142) hx hb dC_Frm_takeOperand_142 rfl (lv_at hl 0 rfl) ?_
          refine lv_iconst (pc := 143) (v := 1) hx hb dC_Frm_takeOperand_143 (by decide) ?_
          refine lv_iand (pc := 144) hx hb dC_Frm_takeOperand_144 ?_
          refine lv_iconst (pc := 145) (v := 1) hx hb dC_Frm_takeOperand_145 (by decide) ?_
          refine lv_icmp_ne (pc := 146) (tgt := 154) hx hb dC_Frm_takeOperand_146 (by decide) (fun hc => ?_) (fun hc => ?_)
          · replace hM := it_f hc hM
            refine lv_bipush (pc := 154) (v := 8) hx hb dC_Frm_takeOperand_154 (by decide) ?_
            exact bC_Frm_takeOperand_156  C  _ _ _ _ _ _ _ _ _ _ _ hM (by omega) (by omega) _ _ _ hW _ (lv_sub hl [2, 0] rfl)
          · replace hM := it_t hc hM
            refine lv_bipush (pc := 149) (v := 9) hx hb dC_Frm_takeOperand_149 (by decide) ?_
            refine lv_goto (pc := 151) (tgt := 156) hx hb dC_Frm_takeOperand_151 (by decide) ?_
            exact bC_Frm_takeOperand_156  C  _ _ _ _ _ _ _ _ _ _ _ hM (by omega) (by omega) _ _ _ hW _ (lv_sub hl [2, 0] rfl)
        · replace hM := it_f k2_3 hM
          by_cases k2_4 : x1 = (40 : Int32)
          · replace hM := it_t k2_4 hM
            refine lv_lookup (pc := 12) (off := 186) (tgt := 198) hx hb dC_Frm_takeOperand_12 (by decide) (by rw [k2_4]; decide) (by decide) ?_
            refine lv_aload_n (pc := 198) hx hb dC_Frm_takeOperand_198 rfl (lv_at hl 2 rfl) ?_
            refine x_getC (pc := 199) C hW 0 rfl (ci := 7) rfl i_Frm 7 (by decide) qc_472 rfl rfl dC_Frm_takeOperand_199 ?_
            refine lv_iload_n (pc := 202) hx hb dC_Frm_takeOperand_202 rfl (lv_at hl 3 rfl) ?_
            obtain ⟨r3, u4, da5, ea6, db7, eb8, hr3, hM, hqda5, hpda5⟩ := ct_some hM
            refine x_callC (pc := 203) (n' := 40) C hW (kC_Row_add l D dA (zz o) (fun _ => o 99) (fun _ => b 99)  x1 (rg sF 2) hr3) [5, 6, 0, 1, 2, 3, 4, 7, 8, 9, 10, 11, 12, 13, 14, 15, 16, 17, 18, 19, 20, 21, 22, 23, 24, 25, 26, 27, 28, 29, 30, 31, 32, 33, 34, 35, 36, 37, 38, 39] rfl (by decide +kernel) rfl (ci := 1) rfl (q0 := 5) rfl gC_Frm_93 ⟨rfl, by decide, by decide, by decide +kernel⟩ ⟨Nat.le_of_ble_eq_true rfl, Nat.le_of_ble_eq_true rfl⟩ ⟨show _ + da5 ≤ DC by omega, show _ + ea6 ≤ DS by omega⟩ (As := [.int x1]) (n := 1) rfl hl.1 rfl (Nat.le_of_ble_eq_true rfl) dC_Frm_takeOperand_203 (fun Wc' ov H locs hPo hWn => ?_)
            obtain ⟨b9, rfl, rfl⟩ := hPo
            have hW := hWn (w_Frm dA o (uN b 99 (b9 0)) i (rs sF 2 u4) sN sT sP sI) rfl rfl
            generalize uN b 99 (b9 0) = b at hW
            obtain ⟨sF10, esF10, hM⟩ := bnd_some hM
            rw [← esF10] at hW
            refine lv_aload_n (pc := 206) hx hb dC_Frm_takeOperand_206 rfl (lv_at hl 2 rfl) ?_
            refine lv_dup (pc := 207) hx hb dC_Frm_takeOperand_207 rfl ?_
            refine x_getC (pc := 208) C hW 0 rfl (ci := 7) rfl i_Frm 10 (by decide) qc_475 rfl rfl dC_Frm_takeOperand_208 ?_
            refine lv_iconst (pc := 211) (v := 1) hx hb dC_Frm_takeOperand_211 (by decide) ?_
            refine lv_iadd (pc := 212) hx hb dC_Frm_takeOperand_212 ?_
            refine x_putC (pc := 213) (ty := .int) (Ws' := (w_Frm dA o b i (cF sF10 3 ((sF10.1 3) + (1 : Int32))) sN sT sP sI)) C hW 0 rfl (ci := 7) rfl i_Frm tok_Frm n_Frm 10 (by decide) qc_475 rfl rfl (by decide +kernel) rfl rfl (Nat.le_of_ble_eq_true rfl) rfl dC_Frm_takeOperand_213 (fun H locs hW => ?_)
            obtain ⟨sF11, esF11, hM⟩ := bnd_some hM
            rw [← esF11] at hW
            refine lv_iconst (pc := 216) (v := 1) hx hb dC_Frm_takeOperand_216 (by decide) ?_
            obtain ⟨rfl, rfl, rfl, rfl⟩ := sm_q hM
            exact x_retCz (pc := 217) C rfl rfl hW ⟨_, rfl, rfl⟩ (by omega) (by omega) dC_Frm_takeOperand_217
          · replace hM := it_f k2_4 hM
            by_cases k2_5 : x1 = (45 : Int32)
            · replace hM := it_t k2_5 hM
              refine lv_lookup (pc := 12) (off := 164) (tgt := 176) hx hb dC_Frm_takeOperand_12 (by decide) (by rw [k2_5]; decide) (by decide) ?_
              refine lv_aload_n (pc := 176) hx hb dC_Frm_takeOperand_176 rfl (lv_at hl 2 rfl) ?_
              refine x_getC (pc := 177) C hW 0 rfl (ci := 7) rfl i_Frm 7 (by decide) qc_472 rfl rfl dC_Frm_takeOperand_177 ?_
              refine lv_bipush (pc := 180) (v := 10) hx hb dC_Frm_takeOperand_180 (by decide) ?_
              obtain ⟨r12, u13, da14, ea15, db16, eb17, hr12, hM, hqda14, hpda14⟩ := ct_some hM
              refine x_callC (pc := 182) (n' := 40) C hW (kC_Row_add l D dA (zz o) (fun _ => o 99) (fun _ => b 99)  (10 : Int32) (rg sF 2) hr12) [5, 6, 0, 1, 2, 3, 4, 7, 8, 9, 10, 11, 12, 13, 14, 15, 16, 17, 18, 19, 20, 21, 22, 23, 24, 25, 26, 27, 28, 29, 30, 31, 32, 33, 34, 35, 36, 37, 38, 39] rfl (by decide +kernel) rfl (ci := 1) rfl (q0 := 5) rfl gC_Frm_93 ⟨rfl, by decide, by decide, by decide +kernel⟩ ⟨Nat.le_of_ble_eq_true rfl, Nat.le_of_ble_eq_true rfl⟩ ⟨show _ + da14 ≤ DC by omega, show _ + ea15 ≤ DS by omega⟩ (As := [.int (10 : Int32)]) (n := 1) rfl hl.1 rfl (Nat.le_of_ble_eq_true rfl) dC_Frm_takeOperand_182 (fun Wc' ov H locs hPo hWn => ?_)
              obtain ⟨b18, rfl, rfl⟩ := hPo
              have hW := hWn (w_Frm dA o (uN b 99 (b18 0)) i (rs sF 2 u13) sN sT sP sI) rfl rfl
              generalize uN b 99 (b18 0) = b at hW
              obtain ⟨sF19, esF19, hM⟩ := bnd_some hM
              rw [← esF19] at hW
              refine lv_iconst (pc := 185) (v := 1) hx hb dC_Frm_takeOperand_185 (by decide) ?_
              obtain ⟨rfl, rfl, rfl, rfl⟩ := sm_q hM
              exact x_retCz (pc := 186) C rfl rfl hW ⟨_, rfl, rfl⟩ (by omega) (by omega) dC_Frm_takeOperand_186
            · replace hM := it_f k2_5 hM
              by_cases k2_6 : x1 = (126 : Int32)
              · replace hM := it_t k2_6 hM
                refine lv_lookup (pc := 12) (off := 175) (tgt := 187) hx hb dC_Frm_takeOperand_12 (by decide) (by rw [k2_6]; decide) (by decide) ?_
                refine lv_aload_n (pc := 187) hx hb dC_Frm_takeOperand_187 rfl (lv_at hl 2 rfl) ?_
                refine x_getC (pc := 188) C hW 0 rfl (ci := 7) rfl i_Frm 7 (by decide) qc_472 rfl rfl dC_Frm_takeOperand_188 ?_
                refine lv_bipush (pc := 191) (v := 11) hx hb dC_Frm_takeOperand_191 (by decide) ?_
                obtain ⟨r20, u21, da22, ea23, db24, eb25, hr20, hM, hqda22, hpda22⟩ := ct_some hM
                refine x_callC (pc := 193) (n' := 40) C hW (kC_Row_add l D dA (zz o) (fun _ => o 99) (fun _ => b 99)  (11 : Int32) (rg sF 2) hr20) [5, 6, 0, 1, 2, 3, 4, 7, 8, 9, 10, 11, 12, 13, 14, 15, 16, 17, 18, 19, 20, 21, 22, 23, 24, 25, 26, 27, 28, 29, 30, 31, 32, 33, 34, 35, 36, 37, 38, 39] rfl (by decide +kernel) rfl (ci := 1) rfl (q0 := 5) rfl gC_Frm_93 ⟨rfl, by decide, by decide, by decide +kernel⟩ ⟨Nat.le_of_ble_eq_true rfl, Nat.le_of_ble_eq_true rfl⟩ ⟨show _ + da22 ≤ DC by omega, show _ + ea23 ≤ DS by omega⟩ (As := [.int (11 : Int32)]) (n := 1) rfl hl.1 rfl (Nat.le_of_ble_eq_true rfl) dC_Frm_takeOperand_193 (fun Wc' ov H locs hPo hWn => ?_)
                obtain ⟨b26, rfl, rfl⟩ := hPo
                have hW := hWn (w_Frm dA o (uN b 99 (b26 0)) i (rs sF 2 u21) sN sT sP sI) rfl rfl
                generalize uN b 99 (b26 0) = b at hW
                obtain ⟨sF27, esF27, hM⟩ := bnd_some hM
                rw [← esF27] at hW
                refine lv_iconst (pc := 196) (v := 1) hx hb dC_Frm_takeOperand_196 (by decide) ?_
                obtain ⟨rfl, rfl, rfl, rfl⟩ := sm_q hM
                exact x_retCz (pc := 197) C rfl rfl hW ⟨_, rfl, rfl⟩ (by omega) (by omega) dC_Frm_takeOperand_197
              · replace hM := it_f k2_6 hM
                refine lv_lookup (pc := 12) (off := 206) (tgt := 218) hx hb dC_Frm_takeOperand_12 (by decide) (by rw [lv_osw k2_0 (by decide)]; rw [lv_osw k2_1 (by decide)]; rw [lv_osw k2_2 (by decide)]; rw [lv_osw k2_3 (by decide)]; rw [lv_osw k2_4 (by decide)]; rw [lv_osw k2_5 (by decide)]; rw [lv_osw k2_6 (by decide)]; rfl) (by decide) ?_
                refine lv_iconst (pc := 218) (v := 0) hx hb dC_Frm_takeOperand_218 (by decide) ?_
                obtain ⟨rfl, rfl, rfl, rfl⟩ := sm_q hM
                exact x_retCz (pc := 219) C rfl rfl hW ⟨_, rfl, rfl⟩ (by omega) (by omega) dC_Frm_takeOperand_219
theorem kC_Frm_takeOperand (l : Launch) (D : va_G) (dA : Nat → ClassId) (o b i : Nat → Nat) (x1 : Int32) (sF : CS) (sN : CS) (sT : CS) (sP : CS) (sI : CS) {r : Int32} {u : CS} {dc ds : Nat} (hM : C_Frm_takeOperand x1 sF sN sT sP sI = some ((r, u), (dc, ds))) : KC l D dA (zz o) yC_Frm_takeOperand cC_Frm_takeOperand 4 (some .boolean) 3 123 dc ds (w_Frm dA o b i sF sN sT sP sI) [.ref (o 96), .int x1] (fun Ws' ov => ∃ b' : Nat → Nat, Ws' = (w_Frm dA o b' i u sN sT sP sI) ∧ ov = (some (.int r))) := x_enterC (by decide +kernel) (Nat.le_of_ble_eq_true rfl) (fun p e s m args below meth c A C _ hW ls hl => bC_Frm_takeOperand_0 C x1 sF sN sT sP sI dc ds 0 0 hM (by omega) (by omega) b s.heap [] hW ls hl)
def C_Frm_takePart_84 (t1 : Int32) (sF : CS) (sN : CS) (sT : CS) (sP : CS) (sI : CS) : Option ((Int32 × (CS × CS)) × (Nat × Nat)) :=
  ct (C_Row_add  t1 (rg sF 2)) (fun r1 u2 => bnd (rs sF 2 u2) (fun sF8 => ct (C_Row_add  (40 : Int32) (rg sF8 2)) (fun r9 u10 => bnd (rs sF8 2 u10) (fun sF16 => bnd (cF sF16 3 ((sF16.1 3) + (1 : Int32))) (fun sF17 => cl (C_Tok_skip  (2 : Int32) sT) (fun r18 u19 => some (((1 : Int32), (sF17, u19)), (0, 0))))))))
set_option maxHeartbeats 4000000 in
set_option maxRecDepth 100000 in
theorem bC_Frm_takePart_84  {r : Int32} {u : CS × CS} {DC DS : Nat} (C : CxC R_Frm p s m args meth c cC_Frm_takePart 2 (some .boolean) D dA (zz o) A) (t1 : Int32) (sF : CS) (sN : CS) (sT : CS) (sP : CS) (sI : CS) (dc ds kc ks : Nat) (hM : C_Frm_takePart_84  t1 sF sN sT sP sI = some ((r, u), (dc, ds))) (hdc : kc + dc ≤ DC) (hds : ks + ds ≤ DS) (b : Nat → Nat) (H : Heap) (locs : List Loc) (hW : WdC D A s (w_Frm dA o b i sF sN sT sP sI) H locs) (ls : Array Slot) (hl : lv_has ls 2 [(0, .ref (o 96))]) : W p l e (rmC 3 123 DC DS) s m args below meth c H locs kc ks (MQ below (QC D A (fun Ws' ov => ∃ b' : Nat → Nat, Ws' = (w_Frm dA o b' i u.1 sN u.2 sP sI) ∧ ov = (some (.int r)))) args s DC DS A) (F0 m 84 ls [.int t1, .ref (o 99)]) := by
  have hx := C.1.1
  have hb := C.1.2.1
  have hown := C.1.2.2.2.2.1
  have hT := C.1.2.2.2.2.2.1
  unfold C_Frm_takePart_84 at hM
  obtain ⟨r1, u2, da3, ea4, db5, eb6, hr1, hM, hqda3, hpda3⟩ := ct_some hM
  refine x_callC (pc := 84) (n' := 40) C hW (kC_Row_add l D dA (zz o) (fun _ => o 99) (fun _ => b 99)  t1 (rg sF 2) hr1) [5, 6, 0, 1, 2, 3, 4, 7, 8, 9, 10, 11, 12, 13, 14, 15, 16, 17, 18, 19, 20, 21, 22, 23, 24, 25, 26, 27, 28, 29, 30, 31, 32, 33, 34, 35, 36, 37, 38, 39] rfl (by decide +kernel) rfl (ci := 1) rfl (q0 := 5) rfl gC_Frm_93 ⟨rfl, by decide, by decide, by decide +kernel⟩ ⟨Nat.le_of_ble_eq_true rfl, Nat.le_of_ble_eq_true rfl⟩ ⟨show _ + da3 ≤ DC by omega, show _ + ea4 ≤ DS by omega⟩ (As := [.int t1]) (n := 1) rfl hl.1 rfl (Nat.le_of_ble_eq_true rfl) dC_Frm_takePart_84 (fun Wc' ov H locs hPo hWn => ?_)
  obtain ⟨b7, rfl, rfl⟩ := hPo
  have hW := hWn (w_Frm dA o (uN b 99 (b7 0)) i (rs sF 2 u2) sN sT sP sI) rfl rfl
  generalize uN b 99 (b7 0) = b at hW
  obtain ⟨sF8, esF8, hM⟩ := bnd_some hM
  rw [← esF8] at hW
  refine lv_aload_n (pc := 87) hx hb dC_Frm_takePart_87 rfl (lv_at hl 0 rfl) ?_
  refine x_getC (pc := 88) C hW 0 rfl (ci := 7) rfl i_Frm 7 (by decide) qc_472 rfl rfl dC_Frm_takePart_88 ?_
  refine lv_bipush (pc := 91) (v := 40) hx hb dC_Frm_takePart_91 (by decide) ?_
  obtain ⟨r9, u10, da11, ea12, db13, eb14, hr9, hM, hqda11, hpda11⟩ := ct_some hM
  refine x_callC (pc := 93) (n' := 40) C hW (kC_Row_add l D dA (zz o) (fun _ => o 99) (fun _ => b 99)  (40 : Int32) (rg sF8 2) hr9) [5, 6, 0, 1, 2, 3, 4, 7, 8, 9, 10, 11, 12, 13, 14, 15, 16, 17, 18, 19, 20, 21, 22, 23, 24, 25, 26, 27, 28, 29, 30, 31, 32, 33, 34, 35, 36, 37, 38, 39] rfl (by decide +kernel) rfl (ci := 1) rfl (q0 := 5) rfl gC_Frm_93 ⟨rfl, by decide, by decide, by decide +kernel⟩ ⟨Nat.le_of_ble_eq_true rfl, Nat.le_of_ble_eq_true rfl⟩ ⟨show _ + da11 ≤ DC by omega, show _ + ea12 ≤ DS by omega⟩ (As := [.int (40 : Int32)]) (n := 1) rfl hl.1 rfl (Nat.le_of_ble_eq_true rfl) dC_Frm_takePart_93 (fun Wc' ov H locs hPo hWn => ?_)
  obtain ⟨b15, rfl, rfl⟩ := hPo
  have hW := hWn (w_Frm dA o (uN b 99 (b15 0)) i (rs sF8 2 u10) sN sT sP sI) rfl rfl
  generalize uN b 99 (b15 0) = b at hW
  obtain ⟨sF16, esF16, hM⟩ := bnd_some hM
  rw [← esF16] at hW
  refine lv_aload_n (pc := 96) hx hb dC_Frm_takePart_96 rfl (lv_at hl 0 rfl) ?_
  refine lv_dup (pc := 97) hx hb dC_Frm_takePart_97 rfl ?_
  refine x_getC (pc := 98) C hW 0 rfl (ci := 7) rfl i_Frm 10 (by decide) qc_475 rfl rfl dC_Frm_takePart_98 ?_
  refine lv_iconst (pc := 101) (v := 1) hx hb dC_Frm_takePart_101 (by decide) ?_
  refine lv_iadd (pc := 102) hx hb dC_Frm_takePart_102 ?_
  refine x_putC (pc := 103) (ty := .int) (Ws' := (w_Frm dA o b i (cF sF16 3 ((sF16.1 3) + (1 : Int32))) sN sT sP sI)) C hW 0 rfl (ci := 7) rfl i_Frm tok_Frm n_Frm 10 (by decide) qc_475 rfl rfl (by decide +kernel) rfl rfl (Nat.le_of_ble_eq_true rfl) rfl dC_Frm_takePart_103 (fun H locs hW => ?_)
  obtain ⟨sF17, esF17, hM⟩ := bnd_some hM
  rw [← esF17] at hW
  refine lv_aload_n (pc := 106) hx hb dC_Frm_takePart_106 rfl (lv_at hl 0 rfl) ?_
  refine x_getC (pc := 107) C hW 0 rfl (ci := 7) rfl i_Frm 3 (by decide) qc_468 rfl rfl dC_Frm_takePart_107 ?_
  refine lv_iconst (pc := 110) (v := 2) hx hb dC_Frm_takePart_110 (by decide) ?_
  obtain ⟨r18, u19, hr18, hM⟩ := cl_some hM
  refine x_callC (pc := 111) (n' := 40) C hW (kC_Tok_skip l D dA (zz o) o b  (2 : Int32) sT hr18) [29, 30, 31, 32, 0, 1, 2, 3, 4, 5, 6, 7, 8, 9, 10, 11, 12, 13, 14, 15, 16, 17, 18, 19, 20, 21, 22, 23, 24, 25, 26, 27, 28, 33, 34, 35, 36, 37, 38, 39] rfl (by decide +kernel) rfl (ci := 3) rfl (q0 := 29) rfl gC_Frm_96 ⟨rfl, by decide, by decide, by decide +kernel⟩ ⟨Nat.le_of_ble_eq_true rfl, Nat.le_of_ble_eq_true rfl⟩ ⟨show _ + 0 ≤ DC by omega, show _ + 0 ≤ DS by omega⟩ (As := [.int (2 : Int32)]) (n := 1) rfl hl.1 rfl (Nat.le_of_ble_eq_true rfl) dC_Frm_takePart_111 (fun Wc' ov H locs hPo hWn => ?_)
  obtain ⟨rfl, rfl⟩ := hPo
  have hW := hWn (w_Frm dA o b i sF17 sN u19 sP sI) rfl rfl
  refine lv_iconst (pc := 114) (v := 1) hx hb dC_Frm_takePart_114 (by decide) ?_
  obtain ⟨rfl, rfl, rfl, rfl⟩ := sm_q hM
  exact x_retCz (pc := 115) C rfl rfl hW ⟨_, rfl, rfl⟩ (by omega) (by omega) dC_Frm_takePart_115
def C_Frm_takePart_60  (sF : CS) (sN : CS) (sT : CS) (sP : CS) (sI : CS) : Option ((Int32 × (CS × CS)) × (Nat × Nat)) :=
  some (((0 : Int32), (sF, sT)), (0, 0))
set_option maxHeartbeats 4000000 in
set_option maxRecDepth 100000 in
theorem bC_Frm_takePart_60  {r : Int32} {u : CS × CS} {DC DS : Nat} (C : CxC R_Frm p s m args meth c cC_Frm_takePart 2 (some .boolean) D dA (zz o) A)  (sF : CS) (sN : CS) (sT : CS) (sP : CS) (sI : CS) (dc ds kc ks : Nat) (hM : C_Frm_takePart_60   sF sN sT sP sI = some ((r, u), (dc, ds))) (hdc : kc + dc ≤ DC) (hds : ks + ds ≤ DS) (b : Nat → Nat) (H : Heap) (locs : List Loc) (hW : WdC D A s (w_Frm dA o b i sF sN sT sP sI) H locs) (ls : Array Slot) (hl : lv_has ls 2 []) : W p l e (rmC 3 123 DC DS) s m args below meth c H locs kc ks (MQ below (QC D A (fun Ws' ov => ∃ b' : Nat → Nat, Ws' = (w_Frm dA o b' i u.1 sN u.2 sP sI) ∧ ov = (some (.int r)))) args s DC DS A) (F0 m 60 ls []) := by
  have hx := C.1.1
  have hb := C.1.2.1
  have hown := C.1.2.2.2.2.1
  have hT := C.1.2.2.2.2.2.1
  unfold C_Frm_takePart_60 at hM
  refine lv_iconst (pc := 60) (v := 0) hx hb dC_Frm_takePart_60 (by decide) ?_
  obtain ⟨rfl, rfl, rfl, rfl⟩ := sm_q hM
  exact x_retCz (pc := 61) C rfl rfl hW ⟨_, rfl, rfl⟩ (by omega) (by omega) dC_Frm_takePart_61
def C_Frm_takePart_47 (x1 : Int32) (sF : CS) (sN : CS) (sT : CS) (sP : CS) (sI : CS) : Option ((Int32 × (CS × CS)) × (Nat × Nat)) :=
  cr (C_Tok_kind  (2 : Int32) sT) (fun r1 => (if r1 = (40 : Int32) then (if x1 = (sN.1 2) then C_Frm_takePart_84  (12 : Int32) sF sN sT sP sI else C_Frm_takePart_84  (13 : Int32) sF sN sT sP sI) else C_Frm_takePart_60  sF sN sT sP sI))
set_option maxHeartbeats 4000000 in
set_option maxRecDepth 100000 in
theorem bC_Frm_takePart_47  {r : Int32} {u : CS × CS} {DC DS : Nat} (C : CxC R_Frm p s m args meth c cC_Frm_takePart 2 (some .boolean) D dA (zz o) A) (x1 : Int32) (sF : CS) (sN : CS) (sT : CS) (sP : CS) (sI : CS) (dc ds kc ks : Nat) (hM : C_Frm_takePart_47  x1 sF sN sT sP sI = some ((r, u), (dc, ds))) (hdc : kc + dc ≤ DC) (hds : ks + ds ≤ DS) (b : Nat → Nat) (H : Heap) (locs : List Loc) (hW : WdC D A s (w_Frm dA o b i sF sN sT sP sI) H locs) (ls : Array Slot) (hl : lv_has ls 2 [(0, .ref (o 96)), (1, .int x1)]) : W p l e (rmC 3 123 DC DS) s m args below meth c H locs kc ks (MQ below (QC D A (fun Ws' ov => ∃ b' : Nat → Nat, Ws' = (w_Frm dA o b' i u.1 sN u.2 sP sI) ∧ ov = (some (.int r)))) args s DC DS A) (F0 m 47 ls []) := by
  have hx := C.1.1
  have hb := C.1.2.1
  have hown := C.1.2.2.2.2.1
  have hT := C.1.2.2.2.2.2.1
  unfold C_Frm_takePart_47 at hM
  refine lv_aload_n (pc := 47) hx hb dC_Frm_takePart_47 rfl (lv_at hl 0 rfl) ?_
  refine x_getC (pc := 48) C hW 0 rfl (ci := 7) rfl i_Frm 3 (by decide) qc_468 rfl rfl dC_Frm_takePart_48 ?_
  refine lv_iconst (pc := 51) (v := 2) hx hb dC_Frm_takePart_51 (by decide) ?_
  obtain ⟨r1, hr1, hM⟩ := cr_some hM
  refine x_callQ (pc := 52) (n' := 40) (ov := some (.int r1)) C hW (kC_Tok_kind l D dA (zz o) o b  (2 : Int32) sT hr1) [29, 30, 31, 32, 0, 1, 2, 3, 4, 5, 6, 7, 8, 9, 10, 11, 12, 13, 14, 15, 16, 17, 18, 19, 20, 21, 22, 23, 24, 25, 26, 27, 28, 33, 34, 35, 36, 37, 38, 39] rfl (by decide +kernel) rfl (ci := 3) rfl (q0 := 29) rfl gC_Frm_75 ⟨rfl, by decide, by decide, by decide +kernel⟩ ⟨Nat.le_of_ble_eq_true rfl, Nat.le_of_ble_eq_true rfl⟩ ⟨show _ ≤ DC by omega, show _ ≤ DS by omega⟩ (As := [.int (2 : Int32)]) (n := 1) rfl hl.1 rfl (Nat.le_of_ble_eq_true rfl) dC_Frm_takePart_52 ?_
  refine lv_bipush (pc := 55) (v := 40) hx hb dC_Frm_takePart_55 (by decide) ?_
  refine lv_icmp_eq (pc := 57) (tgt := 62) hx hb dC_Frm_takePart_57 (by decide) (fun hc => ?_) (fun hc => ?_)
  · replace hM := it_t hc hM
    refine lv_aload_n (pc := 62) hx hb dC_Frm_takePart_62 rfl (lv_at hl 0 rfl) ?_
    refine x_getC (pc := 63) C hW 0 rfl (ci := 7) rfl i_Frm 7 (by decide) qc_472 rfl rfl dC_Frm_takePart_63 ?_
    refine lv_iload_n (pc := 66) hx hb dC_Frm_takePart_66 rfl (lv_at hl 1 rfl) ?_
    refine lv_aload_n (pc := 67) hx hb dC_Frm_takePart_67 rfl (lv_at hl 0 rfl) ?_
    refine x_getC (pc := 68) C hW 0 rfl (ci := 7) rfl i_Frm 2 (by decide) qc_467 rfl rfl dC_Frm_takePart_68 ?_
    refine x_getC (pc := 71) C hW 9 rfl (ci := 2) rfl i_Nam 6 (by decide) qc_228 rfl rfl dC_Frm_takePart_71 ?_
    refine lv_icmp_ne (pc := 74) (tgt := 82) hx hb dC_Frm_takePart_74 (by decide) (fun hc => ?_) (fun hc => ?_)
    · replace hM := it_f hc hM
      refine lv_bipush (pc := 82) (v := 13) hx hb dC_Frm_takePart_82 (by decide) ?_
      exact bC_Frm_takePart_84  C  _ _ _ _ _ _ _ _ _ _ hM (by omega) (by omega) _ _ _ hW _ (lv_sub hl [0] rfl)
    · replace hM := it_t hc hM
      refine lv_bipush (pc := 77) (v := 12) hx hb dC_Frm_takePart_77 (by decide) ?_
      refine lv_goto (pc := 79) (tgt := 84) hx hb dC_Frm_takePart_79 (by decide) ?_
      exact bC_Frm_takePart_84  C  _ _ _ _ _ _ _ _ _ _ hM (by omega) (by omega) _ _ _ hW _ (lv_sub hl [0] rfl)
  · replace hM := it_f hc hM
    exact bC_Frm_takePart_60  C  _ _ _ _ _ _ _ _ _ hM (by omega) (by omega) _ _ _ hW _ (lv_sub hl [] rfl)
def C_Frm_takePart_24 (t0 : Int32) (sF : CS) (sN : CS) (sT : CS) (sP : CS) (sI : CS) : Option ((Int32 × (CS × CS)) × (Nat × Nat)) :=
  (if t0 = (sN.1 2) then C_Frm_takePart_47  t0 sF sN sT sP sI else (if t0 = (sN.1 3) then C_Frm_takePart_47  t0 sF sN sT sP sI else C_Frm_takePart_60  sF sN sT sP sI))
set_option maxHeartbeats 4000000 in
set_option maxRecDepth 100000 in
theorem bC_Frm_takePart_24  {r : Int32} {u : CS × CS} {DC DS : Nat} (C : CxC R_Frm p s m args meth c cC_Frm_takePart 2 (some .boolean) D dA (zz o) A) (t0 : Int32) (sF : CS) (sN : CS) (sT : CS) (sP : CS) (sI : CS) (dc ds kc ks : Nat) (hM : C_Frm_takePart_24  t0 sF sN sT sP sI = some ((r, u), (dc, ds))) (hdc : kc + dc ≤ DC) (hds : ks + ds ≤ DS) (b : Nat → Nat) (H : Heap) (locs : List Loc) (hW : WdC D A s (w_Frm dA o b i sF sN sT sP sI) H locs) (ls : Array Slot) (hl : lv_has ls 2 [(0, .ref (o 96))]) : W p l e (rmC 3 123 DC DS) s m args below meth c H locs kc ks (MQ below (QC D A (fun Ws' ov => ∃ b' : Nat → Nat, Ws' = (w_Frm dA o b' i u.1 sN u.2 sP sI) ∧ ov = (some (.int r)))) args s DC DS A) (F0 m 24 ls [.int t0]) := by
  have hx := C.1.1
  have hb := C.1.2.1
  have hown := C.1.2.2.2.2.1
  have hT := C.1.2.2.2.2.2.1
  unfold C_Frm_takePart_24 at hM
  refine lv_istore_n (pc := 24) (lv' := [(1, .int t0), (0, .ref (o 96))]) hx hb dC_Frm_takePart_24 rfl hl (by decide) rfl (fun ls hl => ?_)
  refine lv_iload_n (pc := 25) hx hb dC_Frm_takePart_25 rfl (lv_at hl 0 rfl) ?_
  refine lv_aload_n (pc := 26) hx hb dC_Frm_takePart_26 rfl (lv_at hl 1 rfl) ?_
  refine x_getC (pc := 27) C hW 0 rfl (ci := 7) rfl i_Frm 2 (by decide) qc_467 rfl rfl dC_Frm_takePart_27 ?_
  refine x_getC (pc := 30) C hW 9 rfl (ci := 2) rfl i_Nam 6 (by decide) qc_228 rfl rfl dC_Frm_takePart_30 ?_
  refine lv_icmp_eq (pc := 33) (tgt := 47) hx hb dC_Frm_takePart_33 (by decide) (fun hc => ?_) (fun hc => ?_)
  · replace hM := it_t hc hM
    exact bC_Frm_takePart_47  C  _ _ _ _ _ _ _ _ _ _ hM (by omega) (by omega) _ _ _ hW _ (lv_sub hl [1, 0] rfl)
  · replace hM := it_f hc hM
    refine lv_iload_n (pc := 36) hx hb dC_Frm_takePart_36 rfl (lv_at hl 0 rfl) ?_
    refine lv_aload_n (pc := 37) hx hb dC_Frm_takePart_37 rfl (lv_at hl 1 rfl) ?_
    refine x_getC (pc := 38) C hW 0 rfl (ci := 7) rfl i_Frm 2 (by decide) qc_467 rfl rfl dC_Frm_takePart_38 ?_
    refine x_getC (pc := 41) C hW 9 rfl (ci := 2) rfl i_Nam 7 (by decide) qc_230 rfl rfl dC_Frm_takePart_41 ?_
    refine lv_icmp_ne (pc := 44) (tgt := 60) hx hb dC_Frm_takePart_44 (by decide) (fun hc => ?_) (fun hc => ?_)
    · replace hM := it_f hc hM
      exact bC_Frm_takePart_60  C  _ _ _ _ _ _ _ _ _ hM (by omega) (by omega) _ _ _ hW _ (lv_sub hl [] rfl)
    · replace hM := it_t hc hM
      exact bC_Frm_takePart_47  C  _ _ _ _ _ _ _ _ _ _ hM (by omega) (by omega) _ _ _ hW _ (lv_sub hl [1, 0] rfl)
def C_Frm_takePart  (sF : CS) (sN : CS) (sT : CS) (sP : CS) (sI : CS) : Option ((Int32 × (CS × CS)) × (Nat × Nat)) :=
  cr (C_Tok_kind  (1 : Int32) sT) (fun r1 => (if r1 = (2 : Int32) then cr (C_Tok_value  (1 : Int32) sT) (fun r2 => C_Frm_takePart_24  r2 sF sN sT sP sI) else C_Frm_takePart_24  (-1 : Int32) sF sN sT sP sI))
set_option maxHeartbeats 4000000 in
set_option maxRecDepth 100000 in
theorem bC_Frm_takePart_0  {r : Int32} {u : CS × CS} {DC DS : Nat} (C : CxC R_Frm p s m args meth c cC_Frm_takePart 2 (some .boolean) D dA (zz o) A)  (sF : CS) (sN : CS) (sT : CS) (sP : CS) (sI : CS) (dc ds kc ks : Nat) (hM : C_Frm_takePart   sF sN sT sP sI = some ((r, u), (dc, ds))) (hdc : kc + dc ≤ DC) (hds : ks + ds ≤ DS) (b : Nat → Nat) (H : Heap) (locs : List Loc) (hW : WdC D A s (w_Frm dA o b i sF sN sT sP sI) H locs) (ls : Array Slot) (hl : lv_has ls 2 [(0, .ref (o 96))]) : W p l e (rmC 3 123 DC DS) s m args below meth c H locs kc ks (MQ below (QC D A (fun Ws' ov => ∃ b' : Nat → Nat, Ws' = (w_Frm dA o b' i u.1 sN u.2 sP sI) ∧ ov = (some (.int r)))) args s DC DS A) (F0 m 0 ls []) := by
  have hx := C.1.1
  have hb := C.1.2.1
  have hown := C.1.2.2.2.2.1
  have hT := C.1.2.2.2.2.2.1
  unfold C_Frm_takePart at hM
  refine lv_aload_n (pc := 0) hx hb dC_Frm_takePart_0 rfl (lv_at hl 0 rfl) ?_
  refine x_getC (pc := 1) C hW 0 rfl (ci := 7) rfl i_Frm 3 (by decide) qc_468 rfl rfl dC_Frm_takePart_1 ?_
  refine lv_iconst (pc := 4) (v := 1) hx hb dC_Frm_takePart_4 (by decide) ?_
  obtain ⟨r1, hr1, hM⟩ := cr_some hM
  refine x_callQ (pc := 5) (n' := 40) (ov := some (.int r1)) C hW (kC_Tok_kind l D dA (zz o) o b  (1 : Int32) sT hr1) [29, 30, 31, 32, 0, 1, 2, 3, 4, 5, 6, 7, 8, 9, 10, 11, 12, 13, 14, 15, 16, 17, 18, 19, 20, 21, 22, 23, 24, 25, 26, 27, 28, 33, 34, 35, 36, 37, 38, 39] rfl (by decide +kernel) rfl (ci := 3) rfl (q0 := 29) rfl gC_Frm_75 ⟨rfl, by decide, by decide, by decide +kernel⟩ ⟨Nat.le_of_ble_eq_true rfl, Nat.le_of_ble_eq_true rfl⟩ ⟨show _ ≤ DC by omega, show _ ≤ DS by omega⟩ (As := [.int (1 : Int32)]) (n := 1) rfl hl.1 rfl (Nat.le_of_ble_eq_true rfl) dC_Frm_takePart_5 ?_
  refine lv_iconst (pc := 8) (v := 2) hx hb dC_Frm_takePart_8 (by decide) ?_
  refine lv_icmp_ne (pc := 9) (tgt := 23) hx hb dC_Frm_takePart_9 (by decide) (fun hc => ?_) (fun hc => ?_)
  · replace hM := it_f hc hM
    refine lv_iconst (pc := 23) (v := -1) hx hb dC_Frm_takePart_23 (by decide) ?_
    exact bC_Frm_takePart_24  C  _ _ _ _ _ _ _ _ _ _ hM (by omega) (by omega) _ _ _ hW _ (lv_sub hl [0] rfl)
  · replace hM := it_t hc hM
    refine lv_aload_n (pc := 12) hx hb dC_Frm_takePart_12 rfl (lv_at hl 0 rfl) ?_
    refine x_getC (pc := 13) C hW 0 rfl (ci := 7) rfl i_Frm 3 (by decide) qc_468 rfl rfl dC_Frm_takePart_13 ?_
    refine lv_iconst (pc := 16) (v := 1) hx hb dC_Frm_takePart_16 (by decide) ?_
    obtain ⟨r2, hr2, hM⟩ := cr_some hM
    refine x_callQ (pc := 17) (n' := 40) (ov := some (.int r2)) C hW (kC_Tok_value l D dA (zz o) o b  (1 : Int32) sT hr2) [29, 30, 31, 32, 0, 1, 2, 3, 4, 5, 6, 7, 8, 9, 10, 11, 12, 13, 14, 15, 16, 17, 18, 19, 20, 21, 22, 23, 24, 25, 26, 27, 28, 33, 34, 35, 36, 37, 38, 39] rfl (by decide +kernel) rfl (ci := 3) rfl (q0 := 29) rfl gC_Frm_99 ⟨rfl, by decide, by decide, by decide +kernel⟩ ⟨Nat.le_of_ble_eq_true rfl, Nat.le_of_ble_eq_true rfl⟩ ⟨show _ ≤ DC by omega, show _ ≤ DS by omega⟩ (As := [.int (1 : Int32)]) (n := 1) rfl hl.1 rfl (Nat.le_of_ble_eq_true rfl) dC_Frm_takePart_17 ?_
    refine lv_goto (pc := 20) (tgt := 24) hx hb dC_Frm_takePart_20 (by decide) ?_
    exact bC_Frm_takePart_24  C  _ _ _ _ _ _ _ _ _ _ hM (by omega) (by omega) _ _ _ hW _ (lv_sub hl [0] rfl)
theorem kC_Frm_takePart (l : Launch) (D : va_G) (dA : Nat → ClassId) (o b i : Nat → Nat)  (sF : CS) (sN : CS) (sT : CS) (sP : CS) (sI : CS) {r : Int32} {u : CS × CS} {dc ds : Nat} (hM : C_Frm_takePart  sF sN sT sP sI = some ((r, u), (dc, ds))) : KC l D dA (zz o) yC_Frm_takePart cC_Frm_takePart 2 (some .boolean) 3 123 dc ds (w_Frm dA o b i sF sN sT sP sI) [.ref (o 96)] (fun Ws' ov => ∃ b' : Nat → Nat, Ws' = (w_Frm dA o b' i u.1 sN u.2 sP sI) ∧ ov = (some (.int r))) := x_enterC (by decide +kernel) (Nat.le_of_ble_eq_true rfl) (fun p e s m args below meth c A C _ hW ls hl => bC_Frm_takePart_0 C  sF sN sT sP sI dc ds 0 0 hM (by omega) (by omega) b s.heap [] hW ls hl)
def C_Frm_compile_205 (N : Nat) (t0 : Int32) (sF : CS) (sN : CS) (sT : CS) (sP : CS) (sI : CS) : Option ((Int32 × (CS × CS)) × (Nat × Nat)) :=
  gd (isB t0) (some ((t0, (sF, sT)), (0, 0)))
set_option maxHeartbeats 4000000 in
set_option maxRecDepth 100000 in
theorem bC_Frm_compile_205 (N : Nat)  {r : Int32} {u : CS × CS} {DC DS : Nat} (C : CxC R_Frm p s m args meth c cC_Frm_compile 4 (some .boolean) D dA (zz o) A) (t0 : Int32) (sF : CS) (sN : CS) (sT : CS) (sP : CS) (sI : CS) (dc ds kc ks : Nat) (hM : C_Frm_compile_205 N  t0 sF sN sT sP sI = some ((r, u), (dc, ds))) (hdc : kc + dc ≤ DC) (hds : ks + ds ≤ DS) (b : Nat → Nat) (H : Heap) (locs : List Loc) (hW : WdC D A s (w_Frm dA o b i sF sN sT sP sI) H locs) (ls : Array Slot) (hl : lv_has ls 4 []) : W p l e (rmC 4 146 DC DS) s m args below meth c H locs kc ks (MQ below (QC D A (fun Ws' ov => ∃ b' : Nat → Nat, Ws' = (w_Frm dA o b' i u.1 sN u.2 sP sI) ∧ ov = (some (.int r)))) args s DC DS A) (F0 m 205 ls [.int t0]) := by
  have hx := C.1.1
  have hb := C.1.2.1
  have hown := C.1.2.2.2.2.1
  have hT := C.1.2.2.2.2.2.1
  unfold C_Frm_compile_205 at hM
  obtain ⟨hg1, hM⟩ := gd_some hM
  obtain ⟨rfl, rfl, rfl, rfl⟩ := sm_q hM
  exact x_retCz (pc := 205) C rfl (isB_n hg1) hW ⟨_, rfl, rfl⟩ (by omega) (by omega) dC_Frm_compile_205
def C_Frm_compile_204 (N : Nat)  (sF : CS) (sN : CS) (sT : CS) (sP : CS) (sI : CS) : Option ((Int32 × (CS × CS)) × (Nat × Nat)) :=
  C_Frm_compile_205 N  (0 : Int32) sF sN sT sP sI
set_option maxHeartbeats 4000000 in
set_option maxRecDepth 100000 in
theorem bC_Frm_compile_204 (N : Nat)  {r : Int32} {u : CS × CS} {DC DS : Nat} (C : CxC R_Frm p s m args meth c cC_Frm_compile 4 (some .boolean) D dA (zz o) A)  (sF : CS) (sN : CS) (sT : CS) (sP : CS) (sI : CS) (dc ds kc ks : Nat) (hM : C_Frm_compile_204 N   sF sN sT sP sI = some ((r, u), (dc, ds))) (hdc : kc + dc ≤ DC) (hds : ks + ds ≤ DS) (b : Nat → Nat) (H : Heap) (locs : List Loc) (hW : WdC D A s (w_Frm dA o b i sF sN sT sP sI) H locs) (ls : Array Slot) (hl : lv_has ls 4 []) : W p l e (rmC 4 146 DC DS) s m args below meth c H locs kc ks (MQ below (QC D A (fun Ws' ov => ∃ b' : Nat → Nat, Ws' = (w_Frm dA o b' i u.1 sN u.2 sP sI) ∧ ov = (some (.int r)))) args s DC DS A) (F0 m 204 ls []) := by
  have hx := C.1.1
  have hb := C.1.2.1
  have hown := C.1.2.2.2.2.1
  have hT := C.1.2.2.2.2.2.1
  unfold C_Frm_compile_204 at hM
  refine lv_iconst (pc := 204) (v := 0) hx hb dC_Frm_compile_204 (by decide) ?_
  exact bC_Frm_compile_205 N  C  _ _ _ _ _ _ _ _ _ _ hM (by omega) (by omega) _ _ _ hW _ (lv_sub hl [] rfl)
def C_Frm_compile_181 (N : Nat)  (sF : CS) (sN : CS) (sT : CS) (sP : CS) (sI : CS) : Option ((Int32 × (CS × CS)) × (Nat × Nat)) :=
  ct (C_Frm_settleSigns N (1 : Int32) sF sN sT sP sI) (fun r1 u2 => (if (u2.1 2) = 0 then (if (u2.1 3) = 0 then C_Frm_compile_205 N  (1 : Int32) u2 sN sT sP sI else C_Frm_compile_204 N  u2 sN sT sP sI) else C_Frm_compile_204 N  u2 sN sT sP sI))
set_option maxHeartbeats 4000000 in
set_option maxRecDepth 100000 in
theorem bC_Frm_compile_181 (N : Nat)  {r : Int32} {u : CS × CS} {DC DS : Nat} (C : CxC R_Frm p s m args meth c cC_Frm_compile 4 (some .boolean) D dA (zz o) A)  (sF : CS) (sN : CS) (sT : CS) (sP : CS) (sI : CS) (dc ds kc ks : Nat) (hM : C_Frm_compile_181 N   sF sN sT sP sI = some ((r, u), (dc, ds))) (hdc : kc + dc ≤ DC) (hds : ks + ds ≤ DS) (b : Nat → Nat) (H : Heap) (locs : List Loc) (hW : WdC D A s (w_Frm dA o b i sF sN sT sP sI) H locs) (ls : Array Slot) (hl : lv_has ls 4 [(0, .ref (o 96))]) : W p l e (rmC 4 146 DC DS) s m args below meth c H locs kc ks (MQ below (QC D A (fun Ws' ov => ∃ b' : Nat → Nat, Ws' = (w_Frm dA o b' i u.1 sN u.2 sP sI) ∧ ov = (some (.int r)))) args s DC DS A) (F0 m 181 ls []) := by
  have hx := C.1.1
  have hb := C.1.2.1
  have hown := C.1.2.2.2.2.1
  have hT := C.1.2.2.2.2.2.1
  unfold C_Frm_compile_181 at hM
  refine lv_aload_n (pc := 181) hx hb dC_Frm_compile_181 rfl (lv_at hl 0 rfl) ?_
  refine lv_iconst (pc := 182) (v := 1) hx hb dC_Frm_compile_182 (by decide) ?_
  obtain ⟨r1, u2, da3, ea4, db5, eb6, hr1, hM, hqda3, hpda3⟩ := ct_some hM
  refine x_callC (pc := 183) (n' := 40) C hW (kC_Frm_settleSigns l D dA o b i N (1 : Int32) sF sN sT sP sI hr1) [0, 1, 2, 3, 4, 5, 6, 7, 8, 9, 10, 11, 12, 13, 14, 15, 16, 17, 18, 19, 20, 21, 22, 23, 24, 25, 26, 27, 28, 29, 30, 31, 32, 33, 34, 35, 36, 37, 38, 39] rfl (by decide +kernel) rfl (ci := 7) rfl (q0 := 0) rfl gC_Frm_87 ⟨rfl, by decide, by decide, by decide +kernel⟩ ⟨Nat.le_of_ble_eq_true rfl, Nat.le_of_ble_eq_true rfl⟩ ⟨show _ + da3 ≤ DC by omega, show _ + ea4 ≤ DS by omega⟩ (As := [.int (1 : Int32)]) (n := 1) rfl hl.1 rfl (Nat.le_of_ble_eq_true rfl) dC_Frm_compile_183 (fun Wc' ov H locs hPo hWn => ?_)
  obtain ⟨b7, rfl, rfl⟩ := hPo
  have hW := hWn (w_Frm dA o (mxs [1, 2, 4, 6] b7 b) i u2 sN sT sP sI) rfl rfl
  generalize mxs [1, 2, 4, 6] b7 b = b at hW
  refine lv_aload_n (pc := 186) hx hb dC_Frm_compile_186 rfl (lv_at hl 0 rfl) ?_
  refine x_getC (pc := 187) C hW 0 rfl (ci := 7) rfl i_Frm 9 (by decide) qc_474 rfl rfl dC_Frm_compile_187 ?_
  refine lv_if_ne (pc := 190) (tgt := 204) hx hb dC_Frm_compile_190 (by decide) (fun hc => ?_) (fun hc => ?_)
  · replace hM := it_f hc hM
    exact bC_Frm_compile_204 N  C  _ _ _ _ _ _ _ _ _ hM (by omega) (by omega) _ _ _ hW _ (lv_sub hl [] rfl)
  · replace hM := it_t hc hM
    refine lv_aload_n (pc := 193) hx hb dC_Frm_compile_193 rfl (lv_at hl 0 rfl) ?_
    refine x_getC (pc := 194) C hW 0 rfl (ci := 7) rfl i_Frm 10 (by decide) qc_475 rfl rfl dC_Frm_compile_194 ?_
    refine lv_if_ne (pc := 197) (tgt := 204) hx hb dC_Frm_compile_197 (by decide) (fun hc => ?_) (fun hc => ?_)
    · replace hM := it_f hc hM
      exact bC_Frm_compile_204 N  C  _ _ _ _ _ _ _ _ _ hM (by omega) (by omega) _ _ _ hW _ (lv_sub hl [] rfl)
    · replace hM := it_t hc hM
      refine lv_iconst (pc := 200) (v := 1) hx hb dC_Frm_compile_200 (by decide) ?_
      refine lv_goto (pc := 201) (tgt := 205) hx hb dC_Frm_compile_201 (by decide) ?_
      exact bC_Frm_compile_205 N  C  _ _ _ _ _ _ _ _ _ _ hM (by omega) (by omega) _ _ _ hW _ (lv_sub hl [] rfl)
def C_Frm_compile_175 (N : Nat) (rec33 : Int32 → Int32 → CS → CS → CS → CS → CS → Option ((Int32 × (CS × CS)) × (Nat × Nat))) (x1 : Int32) (x2 : Int32) (sF : CS) (sN : CS) (sT : CS) (sP : CS) (sI : CS) : Option ((Int32 × (CS × CS)) × (Nat × Nat)) :=
  rec33 x1 (x2 + (-1 : Int32)) sF sN sT sP sI
set_option maxHeartbeats 4000000 in
set_option maxRecDepth 100000 in
theorem bC_Frm_compile_175 (N : Nat) (rec33 : Int32 → Int32 → CS → CS → CS → CS → CS → Option ((Int32 × (CS × CS)) × (Nat × Nat))) {r : Int32} {u : CS × CS} {DC DS : Nat} (C : CxC R_Frm p s m args meth c cC_Frm_compile 4 (some .boolean) D dA (zz o) A) (hrec33 : ∀ (x1 : Int32) (x2 : Int32) (sF : CS) (sN : CS) (sT : CS) (sP : CS) (sI : CS) (dc ds kc ks : Nat) , rec33 x1 x2 sF sN sT sP sI = some ((r, u), (dc, ds)) → ∀ (hdc : kc + dc ≤ DC) (hds : ks + ds ≤ DS) (b : Nat → Nat) (H : Heap) (locs : List Loc) (hW : WdC D A s (w_Frm dA o b i sF sN sT sP sI) H locs) (ls : Array Slot) (hl : lv_has ls 4 [(0, .ref (o 96)), (1, .int x1), (2, .int x2)]), W p l e (rmC 4 146 DC DS) s m args below meth c H locs kc ks (MQ below (QC D A (fun Ws' ov => ∃ b' : Nat → Nat, Ws' = (w_Frm dA o b' i u.1 sN u.2 sP sI) ∧ ov = (some (.int r)))) args s DC DS A) (F0 m 33 ls [])) (x1 : Int32) (x2 : Int32) (sF : CS) (sN : CS) (sT : CS) (sP : CS) (sI : CS) (dc ds kc ks : Nat) (hM : C_Frm_compile_175 N rec33 x1 x2 sF sN sT sP sI = some ((r, u), (dc, ds))) (hdc : kc + dc ≤ DC) (hds : ks + ds ≤ DS) (b : Nat → Nat) (H : Heap) (locs : List Loc) (hW : WdC D A s (w_Frm dA o b i sF sN sT sP sI) H locs) (ls : Array Slot) (hl : lv_has ls 4 [(0, .ref (o 96)), (1, .int x1), (2, .int x2)]) : W p l e (rmC 4 146 DC DS) s m args below meth c H locs kc ks (MQ below (QC D A (fun Ws' ov => ∃ b' : Nat → Nat, Ws' = (w_Frm dA o b' i u.1 sN u.2 sP sI) ∧ ov = (some (.int r)))) args s DC DS A) (F0 m 175 ls []) := by
  have hx := C.1.1
  have hb := C.1.2.1
  have hown := C.1.2.2.2.2.1
  have hT := C.1.2.2.2.2.2.1
  unfold C_Frm_compile_175 at hM
  refine lv_iinc (pc := 175) (v := x2 + (-1 : Int32)) (lv' := [(2, .int (x2 + (-1 : Int32))), (0, .ref (o 96)), (1, .int x1)]) hx hb dC_Frm_compile_175 hl (k := 2) rfl rfl (by decide) rfl (fun ls hl => ?_)
  refine lv_goto (pc := 178) (tgt := 33) hx hb dC_Frm_compile_178 (by decide) ?_
  exact hrec33 _ _ _ _ _ _ _ _ _ _ _ hM (by omega) (by omega) _ _ _ hW _ (lv_sub hl [1, 2, 0] rfl)
def C_Frm_compile_163 (N : Nat) (rec33 : Int32 → Int32 → CS → CS → CS → CS → CS → Option ((Int32 × (CS × CS)) × (Nat × Nat))) (x1 : Int32) (x2 : Int32) (sF : CS) (sN : CS) (sT : CS) (sP : CS) (sI : CS) : Option ((Int32 × (CS × CS)) × (Nat × Nat)) :=
  (if x1 = 0 then C_Frm_compile_175 N rec33 x1 x2 sF sN sT sP sI else cl (C_Tok_skip  (1 : Int32) sT) (fun r1 u2 => C_Frm_compile_175 N rec33 x1 x2 sF sN u2 sP sI))
set_option maxHeartbeats 4000000 in
set_option maxRecDepth 100000 in
theorem bC_Frm_compile_163 (N : Nat) (rec33 : Int32 → Int32 → CS → CS → CS → CS → CS → Option ((Int32 × (CS × CS)) × (Nat × Nat))) {r : Int32} {u : CS × CS} {DC DS : Nat} (C : CxC R_Frm p s m args meth c cC_Frm_compile 4 (some .boolean) D dA (zz o) A) (hrec33 : ∀ (x1 : Int32) (x2 : Int32) (sF : CS) (sN : CS) (sT : CS) (sP : CS) (sI : CS) (dc ds kc ks : Nat) , rec33 x1 x2 sF sN sT sP sI = some ((r, u), (dc, ds)) → ∀ (hdc : kc + dc ≤ DC) (hds : ks + ds ≤ DS) (b : Nat → Nat) (H : Heap) (locs : List Loc) (hW : WdC D A s (w_Frm dA o b i sF sN sT sP sI) H locs) (ls : Array Slot) (hl : lv_has ls 4 [(0, .ref (o 96)), (1, .int x1), (2, .int x2)]), W p l e (rmC 4 146 DC DS) s m args below meth c H locs kc ks (MQ below (QC D A (fun Ws' ov => ∃ b' : Nat → Nat, Ws' = (w_Frm dA o b' i u.1 sN u.2 sP sI) ∧ ov = (some (.int r)))) args s DC DS A) (F0 m 33 ls [])) (x1 : Int32) (x2 : Int32) (sF : CS) (sN : CS) (sT : CS) (sP : CS) (sI : CS) (dc ds kc ks : Nat) (hM : C_Frm_compile_163 N rec33 x1 x2 sF sN sT sP sI = some ((r, u), (dc, ds))) (hdc : kc + dc ≤ DC) (hds : ks + ds ≤ DS) (b : Nat → Nat) (H : Heap) (locs : List Loc) (hW : WdC D A s (w_Frm dA o b i sF sN sT sP sI) H locs) (ls : Array Slot) (hl : lv_has ls 4 [(0, .ref (o 96)), (1, .int x1), (2, .int x2)]) : W p l e (rmC 4 146 DC DS) s m args below meth c H locs kc ks (MQ below (QC D A (fun Ws' ov => ∃ b' : Nat → Nat, Ws' = (w_Frm dA o b' i u.1 sN u.2 sP sI) ∧ ov = (some (.int r)))) args s DC DS A) (F0 m 163 ls []) := by
  have hx := C.1.1
  have hb := C.1.2.1
  have hown := C.1.2.2.2.2.1
  have hT := C.1.2.2.2.2.2.1
  unfold C_Frm_compile_163 at hM
  refine lv_iload_n (pc := 163) hx hb dC_Frm_compile_163 rfl (lv_at hl 1 rfl) ?_
  refine lv_if_eq (pc := 164) (tgt := 175) hx hb dC_Frm_compile_164 (by decide) (fun hc => ?_) (fun hc => ?_)
  · replace hM := it_t hc hM
    exact bC_Frm_compile_175 N rec33 C hrec33 _ _ _ _ _ _ _ _ _ _ _ hM (by omega) (by omega) _ _ _ hW _ (lv_sub hl [0, 1, 2] rfl)
  · replace hM := it_f hc hM
    refine lv_aload_n (pc := 167) hx hb dC_Frm_compile_167 rfl (lv_at hl 0 rfl) ?_
    refine x_getC (pc := 168) C hW 0 rfl (ci := 7) rfl i_Frm 3 (by decide) qc_468 rfl rfl dC_Frm_compile_168 ?_
    refine lv_iconst (pc := 171) (v := 1) hx hb dC_Frm_compile_171 (by decide) ?_
    obtain ⟨r1, u2, hr1, hM⟩ := cl_some hM
    refine x_callC (pc := 172) (n' := 40) C hW (kC_Tok_skip l D dA (zz o) o b  (1 : Int32) sT hr1) [29, 30, 31, 32, 0, 1, 2, 3, 4, 5, 6, 7, 8, 9, 10, 11, 12, 13, 14, 15, 16, 17, 18, 19, 20, 21, 22, 23, 24, 25, 26, 27, 28, 33, 34, 35, 36, 37, 38, 39] rfl (by decide +kernel) rfl (ci := 3) rfl (q0 := 29) rfl gC_Frm_96 ⟨rfl, by decide, by decide, by decide +kernel⟩ ⟨Nat.le_of_ble_eq_true rfl, Nat.le_of_ble_eq_true rfl⟩ ⟨show _ + 0 ≤ DC by omega, show _ + 0 ≤ DS by omega⟩ (As := [.int (1 : Int32)]) (n := 1) rfl hl.1 rfl (Nat.le_of_ble_eq_true rfl) dC_Frm_compile_172 (fun Wc' ov H locs hPo hWn => ?_)
    obtain ⟨rfl, rfl⟩ := hPo
    have hW := hWn (w_Frm dA o b i sF sN u2 sP sI) rfl rfl
    exact bC_Frm_compile_175 N rec33 C hrec33 _ _ _ _ _ _ _ _ _ _ _ hM (by omega) (by omega) _ _ _ hW _ (lv_sub hl [0, 1, 2] rfl)
def C_Frm_compile_130 (N : Nat) (rec33 : Int32 → Int32 → CS → CS → CS → CS → CS → Option ((Int32 × (CS × CS)) × (Nat × Nat))) (x1 : Int32) (x2 : Int32) (x3 : Int32) (sF : CS) (sN : CS) (sT : CS) (sP : CS) (sI : CS) : Option ((Int32 × (CS × CS)) × (Nat × Nat)) :=
  cr (C_Frm_level  x3) (fun r1 => (if r1 ≤ 0 then C_Frm_compile_163 N rec33 (0 : Int32) x2 sF sN sT sP sI else cr (C_Frm_level  x3) (fun r2 => ct (C_Frm_settleSigns N r2 sF sN sT sP sI) (fun r3 u4 => ct (C_Row_add  x3 (rg u4 2)) (fun r10 u11 => bnd (rs u4 2 u11) (fun sF17 => bnd (cF sF17 2 (1 : Int32)) (fun sF18 => C_Frm_compile_163 N rec33 x1 x2 sF18 sN sT sP sI)))))))
set_option maxHeartbeats 4000000 in
set_option maxRecDepth 100000 in
theorem bC_Frm_compile_130 (N : Nat) (rec33 : Int32 → Int32 → CS → CS → CS → CS → CS → Option ((Int32 × (CS × CS)) × (Nat × Nat))) {r : Int32} {u : CS × CS} {DC DS : Nat} (C : CxC R_Frm p s m args meth c cC_Frm_compile 4 (some .boolean) D dA (zz o) A) (hrec33 : ∀ (x1 : Int32) (x2 : Int32) (sF : CS) (sN : CS) (sT : CS) (sP : CS) (sI : CS) (dc ds kc ks : Nat) , rec33 x1 x2 sF sN sT sP sI = some ((r, u), (dc, ds)) → ∀ (hdc : kc + dc ≤ DC) (hds : ks + ds ≤ DS) (b : Nat → Nat) (H : Heap) (locs : List Loc) (hW : WdC D A s (w_Frm dA o b i sF sN sT sP sI) H locs) (ls : Array Slot) (hl : lv_has ls 4 [(0, .ref (o 96)), (1, .int x1), (2, .int x2)]), W p l e (rmC 4 146 DC DS) s m args below meth c H locs kc ks (MQ below (QC D A (fun Ws' ov => ∃ b' : Nat → Nat, Ws' = (w_Frm dA o b' i u.1 sN u.2 sP sI) ∧ ov = (some (.int r)))) args s DC DS A) (F0 m 33 ls [])) (x1 : Int32) (x2 : Int32) (x3 : Int32) (sF : CS) (sN : CS) (sT : CS) (sP : CS) (sI : CS) (dc ds kc ks : Nat) (hM : C_Frm_compile_130 N rec33 x1 x2 x3 sF sN sT sP sI = some ((r, u), (dc, ds))) (hdc : kc + dc ≤ DC) (hds : ks + ds ≤ DS) (b : Nat → Nat) (H : Heap) (locs : List Loc) (hW : WdC D A s (w_Frm dA o b i sF sN sT sP sI) H locs) (ls : Array Slot) (hl : lv_has ls 4 [(0, .ref (o 96)), (1, .int x1), (2, .int x2), (3, .int x3)]) : W p l e (rmC 4 146 DC DS) s m args below meth c H locs kc ks (MQ below (QC D A (fun Ws' ov => ∃ b' : Nat → Nat, Ws' = (w_Frm dA o b' i u.1 sN u.2 sP sI) ∧ ov = (some (.int r)))) args s DC DS A) (F0 m 130 ls []) := by
  have hx := C.1.1
  have hb := C.1.2.1
  have hown := C.1.2.2.2.2.1
  have hT := C.1.2.2.2.2.2.1
  unfold C_Frm_compile_130 at hM
  refine lv_iload_n (pc := 130) hx hb dC_Frm_compile_130 rfl (lv_at hl 3 rfl) ?_
  obtain ⟨r1, hr1, hM⟩ := cr_some hM
  refine x_callU (pc := 131) (ov := some (.int r1)) C.1 (kC_Frm_level l  x3 hr1) qc_1170 qc_1168 qc_1169 qc_20 ⟨by decide, by decide, by decide +kernel⟩ ⟨rfl, rfl⟩ ⟨Nat.le_of_ble_eq_true rfl, Nat.le_of_ble_eq_true rfl⟩ ⟨show _ ≤ DC by omega, show _ ≤ DS by omega⟩ (As := [.int x3]) (n := 1) rfl hl.1 rfl (Nat.le_of_ble_eq_true rfl) dC_Frm_compile_131 ?_
  refine lv_if_le (pc := 134) (tgt := 161) hx hb dC_Frm_compile_134 (by decide) (fun hc => ?_) (fun hc => ?_)
  · replace hM := it_t hc hM
    refine lv_iconst (pc := 161) (v := 0) hx hb dC_Frm_compile_161 (by decide) ?_
    refine lv_istore_n (pc := 162) (lv' := [(1, .int (0 : Int32)), (0, .ref (o 96)), (2, .int x2), (3, .int x3)]) hx hb dC_Frm_compile_162 rfl hl (by decide) rfl (fun ls hl => ?_)
    exact bC_Frm_compile_163 N rec33 C hrec33 _ _ _ _ _ _ _ _ _ _ _ hM (by omega) (by omega) _ _ _ hW _ (lv_sub hl [1, 0, 2] rfl)
  · replace hM := it_f hc hM
    refine lv_aload_n (pc := 137) hx hb dC_Frm_compile_137 rfl (lv_at hl 0 rfl) ?_
    refine lv_iload_n (pc := 138) hx hb dC_Frm_compile_138 rfl (lv_at hl 3 rfl) ?_
    obtain ⟨r2, hr2, hM⟩ := cr_some hM
    refine x_callU (pc := 139) (ov := some (.int r2)) C.1 (kC_Frm_level l  x3 hr2) qc_1170 qc_1168 qc_1169 qc_20 ⟨by decide, by decide, by decide +kernel⟩ ⟨rfl, rfl⟩ ⟨Nat.le_of_ble_eq_true rfl, Nat.le_of_ble_eq_true rfl⟩ ⟨show _ ≤ DC by omega, show _ ≤ DS by omega⟩ (As := [.int x3]) (n := 1) rfl hl.1 rfl (Nat.le_of_ble_eq_true rfl) dC_Frm_compile_139 ?_
    obtain ⟨r3, u4, da5, ea6, db7, eb8, hr3, hM, hqda5, hpda5⟩ := ct_some hM
    refine x_callC (pc := 142) (n' := 40) C hW (kC_Frm_settleSigns l D dA o b i N r2 sF sN sT sP sI hr3) [0, 1, 2, 3, 4, 5, 6, 7, 8, 9, 10, 11, 12, 13, 14, 15, 16, 17, 18, 19, 20, 21, 22, 23, 24, 25, 26, 27, 28, 29, 30, 31, 32, 33, 34, 35, 36, 37, 38, 39] rfl (by decide +kernel) rfl (ci := 7) rfl (q0 := 0) rfl gC_Frm_87 ⟨rfl, by decide, by decide, by decide +kernel⟩ ⟨Nat.le_of_ble_eq_true rfl, Nat.le_of_ble_eq_true rfl⟩ ⟨show _ + da5 ≤ DC by omega, show _ + ea6 ≤ DS by omega⟩ (As := [.int r2]) (n := 1) rfl hl.1 rfl (Nat.le_of_ble_eq_true rfl) dC_Frm_compile_142 (fun Wc' ov H locs hPo hWn => ?_)
    obtain ⟨b9, rfl, rfl⟩ := hPo
    have hW := hWn (w_Frm dA o (mxs [1, 2, 4, 6] b9 b) i u4 sN sT sP sI) rfl rfl
    generalize mxs [1, 2, 4, 6] b9 b = b at hW
    refine lv_aload_n (pc := 145) hx hb dC_Frm_compile_145 rfl (lv_at hl 0 rfl) ?_
    refine x_getC (pc := 146) C hW 0 rfl (ci := 7) rfl i_Frm 7 (by decide) qc_472 rfl rfl dC_Frm_compile_146 ?_
    refine lv_iload_n (pc := 149) hx hb dC_Frm_compile_149 rfl (lv_at hl 3 rfl) ?_
    obtain ⟨r10, u11, da12, ea13, db14, eb15, hr10, hM, hqda12, hpda12⟩ := ct_some hM
    refine x_callC (pc := 150) (n' := 40) C hW (kC_Row_add l D dA (zz o) (fun _ => o 99) (fun _ => b 99)  x3 (rg u4 2) hr10) [5, 6, 0, 1, 2, 3, 4, 7, 8, 9, 10, 11, 12, 13, 14, 15, 16, 17, 18, 19, 20, 21, 22, 23, 24, 25, 26, 27, 28, 29, 30, 31, 32, 33, 34, 35, 36, 37, 38, 39] rfl (by decide +kernel) rfl (ci := 1) rfl (q0 := 5) rfl gC_Frm_93 ⟨rfl, by decide, by decide, by decide +kernel⟩ ⟨Nat.le_of_ble_eq_true rfl, Nat.le_of_ble_eq_true rfl⟩ ⟨show _ + da12 ≤ DC by omega, show _ + ea13 ≤ DS by omega⟩ (As := [.int x3]) (n := 1) rfl hl.1 rfl (Nat.le_of_ble_eq_true rfl) dC_Frm_compile_150 (fun Wc' ov H locs hPo hWn => ?_)
    obtain ⟨b16, rfl, rfl⟩ := hPo
    have hW := hWn (w_Frm dA o (uN b 99 (b16 0)) i (rs u4 2 u11) sN sT sP sI) rfl rfl
    generalize uN b 99 (b16 0) = b at hW
    obtain ⟨sF17, esF17, hM⟩ := bnd_some hM
    rw [← esF17] at hW
    refine lv_aload_n (pc := 153) hx hb dC_Frm_compile_153 rfl (lv_at hl 0 rfl) ?_
    refine lv_iconst (pc := 154) (v := 1) hx hb dC_Frm_compile_154 (by decide) ?_
    refine x_putC (pc := 155) (ty := .boolean) (Ws' := (w_Frm dA o b i (cF sF17 2 (1 : Int32)) sN sT sP sI)) C hW 0 rfl (ci := 7) rfl i_Frm tok_Frm n_Frm 9 (by decide) qc_474 rfl rfl (by decide +kernel) rfl rfl (Nat.le_of_ble_eq_true rfl) rfl dC_Frm_compile_155 (fun H locs hW => ?_)
    obtain ⟨sF18, esF18, hM⟩ := bnd_some hM
    rw [← esF18] at hW
    refine lv_goto (pc := 158) (tgt := 163) hx hb dC_Frm_compile_158 (by decide) ?_
    exact bC_Frm_compile_163 N rec33 C hrec33 _ _ _ _ _ _ _ _ _ _ _ hM (by omega) (by omega) _ _ _ hW _ (lv_sub hl [0, 1, 2] rfl)
def C_Frm_compile_81 (N : Nat)  (sF : CS) (sN : CS) (sT : CS) (sP : CS) (sI : CS) : Option ((Int32 × (CS × CS)) × (Nat × Nat)) :=
  some (((0 : Int32), (sF, sT)), (0, 0))
set_option maxHeartbeats 4000000 in
set_option maxRecDepth 100000 in
theorem bC_Frm_compile_81 (N : Nat)  {r : Int32} {u : CS × CS} {DC DS : Nat} (C : CxC R_Frm p s m args meth c cC_Frm_compile 4 (some .boolean) D dA (zz o) A)  (sF : CS) (sN : CS) (sT : CS) (sP : CS) (sI : CS) (dc ds kc ks : Nat) (hM : C_Frm_compile_81 N   sF sN sT sP sI = some ((r, u), (dc, ds))) (hdc : kc + dc ≤ DC) (hds : ks + ds ≤ DS) (b : Nat → Nat) (H : Heap) (locs : List Loc) (hW : WdC D A s (w_Frm dA o b i sF sN sT sP sI) H locs) (ls : Array Slot) (hl : lv_has ls 4 []) : W p l e (rmC 4 146 DC DS) s m args below meth c H locs kc ks (MQ below (QC D A (fun Ws' ov => ∃ b' : Nat → Nat, Ws' = (w_Frm dA o b' i u.1 sN u.2 sP sI) ∧ ov = (some (.int r)))) args s DC DS A) (F0 m 81 ls []) := by
  have hx := C.1.1
  have hb := C.1.2.1
  have hown := C.1.2.2.2.2.1
  have hT := C.1.2.2.2.2.2.1
  unfold C_Frm_compile_81 at hM
  refine lv_iconst (pc := 81) (v := 0) hx hb dC_Frm_compile_81 (by decide) ?_
  obtain ⟨rfl, rfl, rfl, rfl⟩ := sm_q hM
  exact x_retCz (pc := 82) C rfl rfl hW ⟨_, rfl, rfl⟩ (by omega) (by omega) dC_Frm_compile_82
def C_Frm_compile_33 (N : Nat)  : Nat → Int32 → Int32 → CS → CS → CS → CS → CS → Option ((Int32 × (CS × CS)) × (Nat × Nat))
  | 0 => fun _ _ _ _ _ _ _ => none
  | n + 1 => fun x1 x2 sF sN sT sP sI => (if x2 ≤ 0 then C_Frm_compile_181 N  sF sN sT sP sI else (if x1 = 0 then C_Frm_compile_181 N  sF sN sT sP sI else cr (C_Tok_kind  (0 : Int32) sT) (fun r1 => (if (sF.1 2) = 0 then (if r1 = (41 : Int32) then (if (sF.1 3) ≤ 0 then C_Frm_compile_130 N (C_Frm_compile_33 N  n) x1 x2 r1 sF sN sT sP sI else ct (C_Frm_settleSigns N (1 : Int32) sF sN sT sP sI) (fun r2 u3 => cl (C_Row_cut  ((u3.1 102) - (1 : Int32)) (rg u3 2)) (fun r9 u10 => bnd (rs u3 2 u10) (fun sF11 => bnd (cF sF11 3 ((sF11.1 3) - (1 : Int32))) (fun sF12 => C_Frm_compile_163 N (C_Frm_compile_33 N  n) x1 x2 sF12 sN sT sP sI))))) else C_Frm_compile_130 N (C_Frm_compile_33 N  n) x1 x2 r1 sF sN sT sP sI) else (if r1 = (37 : Int32) then ct (C_Frm_takePart  sF sN sT sP sI) (fun r20 u21 => (if r20 = 0 then C_Frm_compile_81 N  u21.1 sN u21.2 sP sI else C_Frm_compile_163 N (C_Frm_compile_33 N  n) x1 x2 u21.1 sN u21.2 sP sI)) else ct (C_Frm_takeOperand  r1 sF sN sT sP sI) (fun r13 u14 => (if r13 = 0 then C_Frm_compile_81 N  u14 sN sT sP sI else C_Frm_compile_163 N (C_Frm_compile_33 N  n) x1 x2 u14 sN sT sP sI)))))))
set_option maxHeartbeats 4000000 in
set_option maxRecDepth 100000 in
theorem bC_Frm_compile_33 (N : Nat)  {r : Int32} {u : CS × CS} {DC DS : Nat} (C : CxC R_Frm p s m args meth c cC_Frm_compile 4 (some .boolean) D dA (zz o) A) : ∀ (n : Nat) (x1 : Int32) (x2 : Int32) (sF : CS) (sN : CS) (sT : CS) (sP : CS) (sI : CS) (dc ds kc ks : Nat) , C_Frm_compile_33 N  n x1 x2 sF sN sT sP sI = some ((r, u), (dc, ds)) → ∀ (hdc : kc + dc ≤ DC) (hds : ks + ds ≤ DS) (b : Nat → Nat) (H : Heap) (locs : List Loc) (hW : WdC D A s (w_Frm dA o b i sF sN sT sP sI) H locs) (ls : Array Slot) (hl : lv_has ls 4 [(0, .ref (o 96)), (1, .int x1), (2, .int x2)]), W p l e (rmC 4 146 DC DS) s m args below meth c H locs kc ks (MQ below (QC D A (fun Ws' ov => ∃ b' : Nat → Nat, Ws' = (w_Frm dA o b' i u.1 sN u.2 sP sI) ∧ ov = (some (.int r)))) args s DC DS A) (F0 m 33 ls []) := by
  have hx := C.1.1
  have hb := C.1.2.1
  have hown := C.1.2.2.2.2.1
  have hT := C.1.2.2.2.2.2.1
  intro n
  induction n with
  | zero => intro x1 x2 sF sN sT sP sI dc ds kc ks hM; cases hM
  | succ n hrec33 =>
    intro x1 x2 sF sN sT sP sI dc ds kc ks hM hdc hds b H locs hW ls hl
    rw [C_Frm_compile_33] at hM
    refine lv_iload_n (pc := 33) hx hb dC_Frm_compile_33 rfl (lv_at hl 2 rfl) ?_
    refine lv_if_le (pc := 34) (tgt := 181) hx hb dC_Frm_compile_34 (by decide) (fun hc => ?_) (fun hc => ?_)
    · replace hM := it_t hc hM
      exact bC_Frm_compile_181 N  C  _ _ _ _ _ _ _ _ _ hM (by omega) (by omega) _ _ _ hW _ (lv_sub hl [0] rfl)
    · replace hM := it_f hc hM
      refine lv_iload_n (pc := 37) hx hb dC_Frm_compile_37 rfl (lv_at hl 1 rfl) ?_
      refine lv_if_eq (pc := 38) (tgt := 181) hx hb dC_Frm_compile_38 (by decide) (fun hc => ?_) (fun hc => ?_)
      · replace hM := it_t hc hM
        exact bC_Frm_compile_181 N  C  _ _ _ _ _ _ _ _ _ hM (by omega) (by omega) _ _ _ hW _ (lv_sub hl [0] rfl)
      · replace hM := it_f hc hM
        refine lv_aload_n (pc := 41) hx hb dC_Frm_compile_41 rfl (lv_at hl 0 rfl) ?_
        refine x_getC (pc := 42) C hW 0 rfl (ci := 7) rfl i_Frm 3 (by decide) qc_468 rfl rfl dC_Frm_compile_42 ?_
        refine lv_iconst (pc := 45) (v := 0) hx hb dC_Frm_compile_45 (by decide) ?_
        obtain ⟨r1, hr1, hM⟩ := cr_some hM
        refine x_callQ (pc := 46) (n' := 40) (ov := some (.int r1)) C hW (kC_Tok_kind l D dA (zz o) o b  (0 : Int32) sT hr1) [29, 30, 31, 32, 0, 1, 2, 3, 4, 5, 6, 7, 8, 9, 10, 11, 12, 13, 14, 15, 16, 17, 18, 19, 20, 21, 22, 23, 24, 25, 26, 27, 28, 33, 34, 35, 36, 37, 38, 39] rfl (by decide +kernel) rfl (ci := 3) rfl (q0 := 29) rfl gC_Frm_75 ⟨rfl, by decide, by decide, by decide +kernel⟩ ⟨Nat.le_of_ble_eq_true rfl, Nat.le_of_ble_eq_true rfl⟩ ⟨show _ ≤ DC by omega, show _ ≤ DS by omega⟩ (As := [.int (0 : Int32)]) (n := 1) rfl hl.1 rfl (Nat.le_of_ble_eq_true rfl) dC_Frm_compile_46 ?_
        refine lv_istore_n (pc := 49) (lv' := [(3, .int r1), (0, .ref (o 96)), (1, .int x1), (2, .int x2)]) hx hb dC_Frm_compile_49 rfl hl (by decide) rfl (fun ls hl => ?_)
        refine lv_aload_n (pc := 50) hx hb dC_Frm_compile_50 rfl (lv_at hl 1 rfl) ?_
        refine x_getC (pc := 51) C hW 0 rfl (ci := 7) rfl i_Frm 9 (by decide) qc_474 rfl rfl dC_Frm_compile_51 ?_
        refine lv_if_eq (pc := 54) (tgt := 83) hx hb dC_Frm_compile_54 (by decide) (fun hc => ?_) (fun hc => ?_)
        · replace hM := it_t hc hM
          refine lv_iload_n (pc := 83) hx hb dC_Frm_compile_83 rfl (lv_at hl 0 rfl) ?_
          refine lv_bipush (pc := 84) (v := 41) hx hb dC_Frm_compile_84 (by decide) ?_
          refine lv_icmp_ne (pc := 86) (tgt := 130) hx hb dC_Frm_compile_86 (by decide) (fun hc => ?_) (fun hc => ?_)
          · replace hM := it_f hc hM
            exact bC_Frm_compile_130 N _ C hrec33 _ _ _ _ _ _ _ _ _ _ _ _ hM (by omega) (by omega) _ _ _ hW _ (lv_sub hl [1, 2, 3, 0] rfl)
          · replace hM := it_t hc hM
            refine lv_aload_n (pc := 89) hx hb dC_Frm_compile_89 rfl (lv_at hl 1 rfl) ?_
            refine x_getC (pc := 90) C hW 0 rfl (ci := 7) rfl i_Frm 10 (by decide) qc_475 rfl rfl dC_Frm_compile_90 ?_
            refine lv_if_le (pc := 93) (tgt := 130) hx hb dC_Frm_compile_93 (by decide) (fun hc => ?_) (fun hc => ?_)
            · replace hM := it_t hc hM
              exact bC_Frm_compile_130 N _ C hrec33 _ _ _ _ _ _ _ _ _ _ _ _ hM (by omega) (by omega) _ _ _ hW _ (lv_sub hl [1, 2, 3, 0] rfl)
            · replace hM := it_f hc hM
              refine lv_aload_n (pc := 96) hx hb dC_Frm_compile_96 rfl (lv_at hl 1 rfl) ?_
              refine lv_iconst (pc := 97) (v := 1) hx hb dC_Frm_compile_97 (by decide) ?_
              obtain ⟨r2, u3, da4, ea5, db6, eb7, hr2, hM, hqda4, hpda4⟩ := ct_some hM
              refine x_callC (pc := 98) (n' := 40) C hW (kC_Frm_settleSigns l D dA o b i N (1 : Int32) sF sN sT sP sI hr2) [0, 1, 2, 3, 4, 5, 6, 7, 8, 9, 10, 11, 12, 13, 14, 15, 16, 17, 18, 19, 20, 21, 22, 23, 24, 25, 26, 27, 28, 29, 30, 31, 32, 33, 34, 35, 36, 37, 38, 39] rfl (by decide +kernel) rfl (ci := 7) rfl (q0 := 0) rfl gC_Frm_87 ⟨rfl, by decide, by decide, by decide +kernel⟩ ⟨Nat.le_of_ble_eq_true rfl, Nat.le_of_ble_eq_true rfl⟩ ⟨show _ + da4 ≤ DC by omega, show _ + ea5 ≤ DS by omega⟩ (As := [.int (1 : Int32)]) (n := 1) rfl hl.1 rfl (Nat.le_of_ble_eq_true rfl) dC_Frm_compile_98 (fun Wc' ov H locs hPo hWn => ?_)
              obtain ⟨b8, rfl, rfl⟩ := hPo
              have hW := hWn (w_Frm dA o (mxs [1, 2, 4, 6] b8 b) i u3 sN sT sP sI) rfl rfl
              generalize mxs [1, 2, 4, 6] b8 b = b at hW
              refine lv_aload_n (pc := 101) hx hb dC_Frm_compile_101 rfl (lv_at hl 1 rfl) ?_
              refine x_getC (pc := 102) C hW 0 rfl (ci := 7) rfl i_Frm 7 (by decide) qc_472 rfl rfl dC_Frm_compile_102 ?_
              refine lv_aload_n (pc := 105) hx hb dC_Frm_compile_105 rfl (lv_at hl 1 rfl) ?_
              refine x_getC (pc := 106) C hW 0 rfl (ci := 7) rfl i_Frm 7 (by decide) qc_472 rfl rfl dC_Frm_compile_106 ?_
              refine x_getC (pc := 109) C hW 5 rfl (ci := 1) rfl i_Row 0 (by decide) qc_56 rfl rfl dC_Frm_compile_109 ?_
              refine lv_iconst (pc := 112) (v := 1) hx hb dC_Frm_compile_112 (by decide) ?_
              refine lv_isub (pc := 113) hx hb dC_Frm_compile_113 ?_
              obtain ⟨r9, u10, hr9, hM⟩ := cl_some hM
              refine x_callC (pc := 114) (n' := 40) C hW (kC_Row_cut l D dA (zz o) (fun _ => o 99) (fun _ => b 99)  ((u3.1 102) - (1 : Int32)) (rg u3 2) hr9) [5, 6, 0, 1, 2, 3, 4, 7, 8, 9, 10, 11, 12, 13, 14, 15, 16, 17, 18, 19, 20, 21, 22, 23, 24, 25, 26, 27, 28, 29, 30, 31, 32, 33, 34, 35, 36, 37, 38, 39] rfl (by decide +kernel) rfl (ci := 1) rfl (q0 := 5) rfl gC_Frm_66 ⟨rfl, by decide, by decide, by decide +kernel⟩ ⟨Nat.le_of_ble_eq_true rfl, Nat.le_of_ble_eq_true rfl⟩ ⟨show _ + 0 ≤ DC by omega, show _ + 0 ≤ DS by omega⟩ (As := [.int ((u3.1 102) - (1 : Int32))]) (n := 1) rfl hl.1 rfl (Nat.le_of_ble_eq_true rfl) dC_Frm_compile_114 (fun Wc' ov H locs hPo hWn => ?_)
              obtain ⟨rfl, rfl⟩ := hPo
              have hW := hWn (w_Frm dA o b i (rs u3 2 u10) sN sT sP sI) rfl rfl
              obtain ⟨sF11, esF11, hM⟩ := bnd_some hM
              rw [← esF11] at hW
              refine lv_aload_n (pc := 117) hx hb dC_Frm_compile_117 rfl (lv_at hl 1 rfl) ?_
              refine lv_dup (pc := 118) hx hb dC_Frm_compile_118 rfl ?_
              refine x_getC (pc := 119) C hW 0 rfl (ci := 7) rfl i_Frm 10 (by decide) qc_475 rfl rfl dC_Frm_compile_119 ?_
              refine lv_iconst (pc := 122) (v := 1) hx hb dC_Frm_compile_122 (by decide) ?_
              refine lv_isub (pc := 123) hx hb dC_Frm_compile_123 ?_
              refine x_putC (pc := 124) (ty := .int) (Ws' := (w_Frm dA o b i (cF sF11 3 ((sF11.1 3) - (1 : Int32))) sN sT sP sI)) C hW 0 rfl (ci := 7) rfl i_Frm tok_Frm n_Frm 10 (by decide) qc_475 rfl rfl (by decide +kernel) rfl rfl (Nat.le_of_ble_eq_true rfl) rfl dC_Frm_compile_124 (fun H locs hW => ?_)
              obtain ⟨sF12, esF12, hM⟩ := bnd_some hM
              rw [← esF12] at hW
              refine lv_goto (pc := 127) (tgt := 163) hx hb dC_Frm_compile_127 (by decide) ?_
              exact bC_Frm_compile_163 N _ C hrec33 _ _ _ _ _ _ _ _ _ _ _ hM (by omega) (by omega) _ _ _ hW _ (lv_sub hl [1, 2, 3] rfl)
        · replace hM := it_f hc hM
          refine lv_iload_n (pc := 57) hx hb dC_Frm_compile_57 rfl (lv_at hl 0 rfl) ?_
          refine lv_bipush (pc := 58) (v := 37) hx hb dC_Frm_compile_58 (by decide) ?_
          refine lv_icmp_ne (pc := 60) (tgt := 73) hx hb dC_Frm_compile_60 (by decide) (fun hc => ?_) (fun hc => ?_)
          · replace hM := it_f hc hM
            refine lv_aload_n (pc := 73) hx hb dC_Frm_compile_73 rfl (lv_at hl 1 rfl) ?_
            refine lv_iload_n (pc := 74) hx hb dC_Frm_compile_74 rfl (lv_at hl 0 rfl) ?_
            obtain ⟨r13, u14, da15, ea16, db17, eb18, hr13, hM, hqda15, hpda15⟩ := ct_some hM
            refine x_callC (pc := 75) (n' := 40) C hW (kC_Frm_takeOperand l D dA o b i  r1 sF sN sT sP sI hr13) [0, 1, 2, 3, 4, 5, 6, 7, 8, 9, 10, 11, 12, 13, 14, 15, 16, 17, 18, 19, 20, 21, 22, 23, 24, 25, 26, 27, 28, 29, 30, 31, 32, 33, 34, 35, 36, 37, 38, 39] rfl (by decide +kernel) rfl (ci := 7) rfl (q0 := 0) rfl gC_Frm_83 ⟨rfl, by decide, by decide, by decide +kernel⟩ ⟨Nat.le_of_ble_eq_true rfl, Nat.le_of_ble_eq_true rfl⟩ ⟨show _ + da15 ≤ DC by omega, show _ + ea16 ≤ DS by omega⟩ (As := [.int r1]) (n := 1) rfl hl.1 rfl (Nat.le_of_ble_eq_true rfl) dC_Frm_compile_75 (fun Wc' ov H locs hPo hWn => ?_)
            obtain ⟨b19, rfl, rfl⟩ := hPo
            have hW := hWn (w_Frm dA o (mxs [1, 2, 4, 6] b19 b) i u14 sN sT sP sI) rfl rfl
            generalize mxs [1, 2, 4, 6] b19 b = b at hW
            refine lv_if_ne (pc := 78) (tgt := 163) hx hb dC_Frm_compile_78 (by decide) (fun hc => ?_) (fun hc => ?_)
            · replace hM := it_f hc hM
              exact bC_Frm_compile_163 N _ C hrec33 _ _ _ _ _ _ _ _ _ _ _ hM (by omega) (by omega) _ _ _ hW _ (lv_sub hl [1, 2, 3] rfl)
            · replace hM := it_t hc hM
              exact bC_Frm_compile_81 N  C  _ _ _ _ _ _ _ _ _ hM (by omega) (by omega) _ _ _ hW _ (lv_sub hl [] rfl)
          · replace hM := it_t hc hM
            refine lv_aload_n (pc := 63) hx hb dC_Frm_compile_63 rfl (lv_at hl 1 rfl) ?_
            obtain ⟨r20, u21, da22, ea23, db24, eb25, hr20, hM, hqda22, hpda22⟩ := ct_some hM
            refine x_callC (pc := 64) (n' := 40) C hW (kC_Frm_takePart l D dA o b i  sF sN sT sP sI hr20) [0, 1, 2, 3, 4, 5, 6, 7, 8, 9, 10, 11, 12, 13, 14, 15, 16, 17, 18, 19, 20, 21, 22, 23, 24, 25, 26, 27, 28, 29, 30, 31, 32, 33, 34, 35, 36, 37, 38, 39] rfl (by decide +kernel) rfl (ci := 7) rfl (q0 := 0) rfl gC_Frm_79 ⟨rfl, by decide, by decide, by decide +kernel⟩ ⟨Nat.le_of_ble_eq_true rfl, Nat.le_of_ble_eq_true rfl⟩ ⟨show _ + da22 ≤ DC by omega, show _ + ea23 ≤ DS by omega⟩ (As := []) (n := 0) rfl hl.1 rfl (Nat.le_of_ble_eq_true rfl) dC_Frm_compile_64 (fun Wc' ov H locs hPo hWn => ?_)
            obtain ⟨b26, rfl, rfl⟩ := hPo
            have hW := hWn (w_Frm dA o (mxs [1, 2, 4, 6] b26 b) i u21.1 sN u21.2 sP sI) rfl rfl
            generalize mxs [1, 2, 4, 6] b26 b = b at hW
            refine lv_if_eq (pc := 67) (tgt := 81) hx hb dC_Frm_compile_67 (by decide) (fun hc => ?_) (fun hc => ?_)
            · replace hM := it_t hc hM
              exact bC_Frm_compile_81 N  C  _ _ _ _ _ _ _ _ _ hM (by omega) (by omega) _ _ _ hW _ (lv_sub hl [] rfl)
            · replace hM := it_f hc hM
              refine lv_goto (pc := 70) (tgt := 163) hx hb dC_Frm_compile_70 (by decide) ?_
              exact bC_Frm_compile_163 N _ C hrec33 _ _ _ _ _ _ _ _ _ _ _ hM (by omega) (by omega) _ _ _ hW _ (lv_sub hl [1, 2, 3] rfl)
def C_Frm_compile (N : Nat)  (sF : CS) (sN : CS) (sT : CS) (sP : CS) (sI : CS) : Option ((Int32 × (CS × CS)) × (Nat × Nat)) :=
  bnd (cF sF 0 (1 : Int32)) (fun sF1 => bnd (cF sF1 2 (1 : Int32)) (fun sF2 => bnd (cF sF2 3 (0 : Int32)) (fun sF3 => cl (C_Row_cut  (0 : Int32) (rg sF3 2)) (fun r4 u5 => bnd (rs sF3 2 u5) (fun sF6 => cr (C_Tok_left  sT) (fun r7 => C_Frm_compile_33 N  N (1 : Int32) r7 sF6 sN sT sP sI))))))
set_option maxHeartbeats 4000000 in
set_option maxRecDepth 100000 in
theorem bC_Frm_compile_0 (N : Nat)  {r : Int32} {u : CS × CS} {DC DS : Nat} (C : CxC R_Frm p s m args meth c cC_Frm_compile 4 (some .boolean) D dA (zz o) A)  (sF : CS) (sN : CS) (sT : CS) (sP : CS) (sI : CS) (dc ds kc ks : Nat) (hM : C_Frm_compile N   sF sN sT sP sI = some ((r, u), (dc, ds))) (hdc : kc + dc ≤ DC) (hds : ks + ds ≤ DS) (b : Nat → Nat) (H : Heap) (locs : List Loc) (hW : WdC D A s (w_Frm dA o b i sF sN sT sP sI) H locs) (ls : Array Slot) (hl : lv_has ls 4 [(0, .ref (o 96))]) : W p l e (rmC 4 146 DC DS) s m args below meth c H locs kc ks (MQ below (QC D A (fun Ws' ov => ∃ b' : Nat → Nat, Ws' = (w_Frm dA o b' i u.1 sN u.2 sP sI) ∧ ov = (some (.int r)))) args s DC DS A) (F0 m 0 ls []) := by
  have hx := C.1.1
  have hb := C.1.2.1
  have hown := C.1.2.2.2.2.1
  have hT := C.1.2.2.2.2.2.1
  unfold C_Frm_compile at hM
  refine lv_aload_n (pc := 0) hx hb dC_Frm_compile_0 rfl (lv_at hl 0 rfl) ?_
  refine lv_iconst (pc := 1) (v := 1) hx hb dC_Frm_compile_1 (by decide) ?_
  refine x_putC (pc := 2) (ty := .boolean) (Ws' := (w_Frm dA o b i (cF sF 0 (1 : Int32)) sN sT sP sI)) C hW 0 rfl (ci := 7) rfl i_Frm tok_Frm n_Frm 0 (by decide) qc_462 rfl rfl (by decide +kernel) rfl rfl (Nat.le_of_ble_eq_true rfl) rfl dC_Frm_compile_2 (fun H locs hW => ?_)
  obtain ⟨sF1, esF1, hM⟩ := bnd_some hM
  rw [← esF1] at hW
  refine lv_aload_n (pc := 5) hx hb dC_Frm_compile_5 rfl (lv_at hl 0 rfl) ?_
  refine lv_iconst (pc := 6) (v := 1) hx hb dC_Frm_compile_6 (by decide) ?_
  refine x_putC (pc := 7) (ty := .boolean) (Ws' := (w_Frm dA o b i (cF sF1 2 (1 : Int32)) sN sT sP sI)) C hW 0 rfl (ci := 7) rfl i_Frm tok_Frm n_Frm 9 (by decide) qc_474 rfl rfl (by decide +kernel) rfl rfl (Nat.le_of_ble_eq_true rfl) rfl dC_Frm_compile_7 (fun H locs hW => ?_)
  obtain ⟨sF2, esF2, hM⟩ := bnd_some hM
  rw [← esF2] at hW
  refine lv_aload_n (pc := 10) hx hb dC_Frm_compile_10 rfl (lv_at hl 0 rfl) ?_
  refine lv_iconst (pc := 11) (v := 0) hx hb dC_Frm_compile_11 (by decide) ?_
  refine x_putC (pc := 12) (ty := .int) (Ws' := (w_Frm dA o b i (cF sF2 3 (0 : Int32)) sN sT sP sI)) C hW 0 rfl (ci := 7) rfl i_Frm tok_Frm n_Frm 10 (by decide) qc_475 rfl rfl (by decide +kernel) rfl rfl (Nat.le_of_ble_eq_true rfl) rfl dC_Frm_compile_12 (fun H locs hW => ?_)
  obtain ⟨sF3, esF3, hM⟩ := bnd_some hM
  rw [← esF3] at hW
  refine lv_aload_n (pc := 15) hx hb dC_Frm_compile_15 rfl (lv_at hl 0 rfl) ?_
  refine x_getC (pc := 16) C hW 0 rfl (ci := 7) rfl i_Frm 7 (by decide) qc_472 rfl rfl dC_Frm_compile_16 ?_
  refine lv_iconst (pc := 19) (v := 0) hx hb dC_Frm_compile_19 (by decide) ?_
  obtain ⟨r4, u5, hr4, hM⟩ := cl_some hM
  refine x_callC (pc := 20) (n' := 40) C hW (kC_Row_cut l D dA (zz o) (fun _ => o 99) (fun _ => b 99)  (0 : Int32) (rg sF3 2) hr4) [5, 6, 0, 1, 2, 3, 4, 7, 8, 9, 10, 11, 12, 13, 14, 15, 16, 17, 18, 19, 20, 21, 22, 23, 24, 25, 26, 27, 28, 29, 30, 31, 32, 33, 34, 35, 36, 37, 38, 39] rfl (by decide +kernel) rfl (ci := 1) rfl (q0 := 5) rfl gC_Frm_66 ⟨rfl, by decide, by decide, by decide +kernel⟩ ⟨Nat.le_of_ble_eq_true rfl, Nat.le_of_ble_eq_true rfl⟩ ⟨show _ + 0 ≤ DC by omega, show _ + 0 ≤ DS by omega⟩ (As := [.int (0 : Int32)]) (n := 1) rfl hl.1 rfl (Nat.le_of_ble_eq_true rfl) dC_Frm_compile_20 (fun Wc' ov H locs hPo hWn => ?_)
  obtain ⟨rfl, rfl⟩ := hPo
  have hW := hWn (w_Frm dA o b i (rs sF3 2 u5) sN sT sP sI) rfl rfl
  obtain ⟨sF6, esF6, hM⟩ := bnd_some hM
  rw [← esF6] at hW
  refine lv_iconst (pc := 23) (v := 1) hx hb dC_Frm_compile_23 (by decide) ?_
  refine lv_istore_n (pc := 24) (lv' := [(1, .int (1 : Int32)), (0, .ref (o 96))]) hx hb dC_Frm_compile_24 rfl hl (by decide) rfl (fun ls hl => ?_)
  refine lv_aload_n (pc := 25) hx hb dC_Frm_compile_25 rfl (lv_at hl 1 rfl) ?_
  refine x_getC (pc := 26) C hW 0 rfl (ci := 7) rfl i_Frm 3 (by decide) qc_468 rfl rfl dC_Frm_compile_26 ?_
  obtain ⟨r7, hr7, hM⟩ := cr_some hM
  refine x_callQ (pc := 29) (n' := 40) (ov := some (.int r7)) C hW (kC_Tok_left l D dA (zz o) o b  sT hr7) [29, 30, 31, 32, 0, 1, 2, 3, 4, 5, 6, 7, 8, 9, 10, 11, 12, 13, 14, 15, 16, 17, 18, 19, 20, 21, 22, 23, 24, 25, 26, 27, 28, 33, 34, 35, 36, 37, 38, 39] rfl (by decide +kernel) rfl (ci := 3) rfl (q0 := 29) rfl gC_Frm_69 ⟨rfl, by decide, by decide, by decide +kernel⟩ ⟨Nat.le_of_ble_eq_true rfl, Nat.le_of_ble_eq_true rfl⟩ ⟨show _ ≤ DC by omega, show _ ≤ DS by omega⟩ (As := []) (n := 0) rfl hl.1 rfl (Nat.le_of_ble_eq_true rfl) dC_Frm_compile_29 ?_
  refine lv_istore_n (pc := 32) (lv' := [(2, .int r7), (1, .int (1 : Int32)), (0, .ref (o 96))]) hx hb dC_Frm_compile_32 rfl hl (by decide) rfl (fun ls hl => ?_)
  exact bC_Frm_compile_33 N  C  N _ _ _ _ _ _ _ _ _ _ _ hM (by omega) (by omega) _ _ _ hW _ (lv_sub hl [2, 1, 0] rfl)
theorem kC_Frm_compile (l : Launch) (D : va_G) (dA : Nat → ClassId) (o b i : Nat → Nat) (N : Nat)  (sF : CS) (sN : CS) (sT : CS) (sP : CS) (sI : CS) {r : Int32} {u : CS × CS} {dc ds : Nat} (hM : C_Frm_compile N  sF sN sT sP sI = some ((r, u), (dc, ds))) : KC l D dA (zz o) yC_Frm_compile cC_Frm_compile 4 (some .boolean) 4 146 dc ds (w_Frm dA o b i sF sN sT sP sI) [.ref (o 96)] (fun Ws' ov => ∃ b' : Nat → Nat, Ws' = (w_Frm dA o b' i u.1 sN u.2 sP sI) ∧ ov = (some (.int r))) := x_enterC (by decide +kernel) (Nat.le_of_ble_eq_true rfl) (fun p e s m args below meth c A C _ hW ls hl => bC_Frm_compile_0 N C  sF sN sT sP sI dc ds 0 0 hM (by omega) (by omega) b s.heap [] hW ls hl)
def C_Frm_valueOf_56 (x3 : Int32) (t1 : Int32) (sF : CS) (sN : CS) (sT : CS) (sP : CS) (sI : CS) : Option (Int32 × CS) :=
  gd (isB t1) (bnd (cF sF 4 t1) (fun sF2 => some (x3, sF2)))
set_option maxHeartbeats 4000000 in
set_option maxRecDepth 100000 in
theorem bC_Frm_valueOf_56  {r : Int32} {u : CS} (C : CxC R_Frm p s m args meth c cC_Frm_valueOf 4 (some .int) D dA (zz o) A) (x3 : Int32) (t1 : Int32) (sF : CS) (sN : CS) (sT : CS) (sP : CS) (sI : CS) (hM : C_Frm_valueOf_56  x3 t1 sF sN sT sP sI = some (r, u)) (H : Heap) (locs : List Loc) (hW : WdC D A s (w_Frm dA o b i sF sN sT sP sI) H locs) (ls : Array Slot) (hl : lv_has ls 4 [(3, .int x3)]) : W p l e (rmC 4 142 0 0) s m args below meth c H locs 0 0 (MQ below (QC D A (fun Ws' ov => Ws' = (w_Frm dA o b i u sN sT sP sI) ∧ ov = (some (.int r)))) args s 0 0 A) (F0 m 56 ls [.int t1, .ref (o 96)]) := by
  have hx := C.1.1
  have hb := C.1.2.1
  have hown := C.1.2.2.2.2.1
  have hT := C.1.2.2.2.2.2.1
  unfold C_Frm_valueOf_56 at hM
  obtain ⟨hg1, hM⟩ := gd_some hM
  refine x_putC (pc := 56) (ty := .boolean) (Ws' := (w_Frm dA o b i (cF sF 4 t1) sN sT sP sI)) C hW 0 rfl (ci := 7) rfl i_Frm tok_Frm n_Frm 11 (by decide) qc_476 rfl rfl (by decide +kernel) (isB_n hg1) (isB_f hg1) (Nat.le_of_ble_eq_true rfl) rfl dC_Frm_valueOf_56 (fun H locs hW => ?_)
  obtain ⟨sF2, esF2, hM⟩ := bnd_some hM
  rw [← esF2] at hW
  refine lv_iload_n (pc := 59) hx hb dC_Frm_valueOf_59 rfl (lv_at hl 0 rfl) ?_
  obtain ⟨rfl, rfl⟩ := sm_p hM
  exact x_retCi (pc := 60) C rfl hW ⟨rfl, rfl⟩ (Nat.le_refl 0) (Nat.le_refl 0) dC_Frm_valueOf_60
def C_Frm_valueOf_51 (x3 : Int32) (sF : CS) (sN : CS) (sT : CS) (sP : CS) (sI : CS) : Option (Int32 × CS) :=
  C_Frm_valueOf_56  x3 (1 : Int32) sF sN sT sP sI
set_option maxHeartbeats 4000000 in
set_option maxRecDepth 100000 in
theorem bC_Frm_valueOf_51  {r : Int32} {u : CS} (C : CxC R_Frm p s m args meth c cC_Frm_valueOf 4 (some .int) D dA (zz o) A) (x3 : Int32) (sF : CS) (sN : CS) (sT : CS) (sP : CS) (sI : CS) (hM : C_Frm_valueOf_51  x3 sF sN sT sP sI = some (r, u)) (H : Heap) (locs : List Loc) (hW : WdC D A s (w_Frm dA o b i sF sN sT sP sI) H locs) (ls : Array Slot) (hl : lv_has ls 4 [(3, .int x3)]) : W p l e (rmC 4 142 0 0) s m args below meth c H locs 0 0 (MQ below (QC D A (fun Ws' ov => Ws' = (w_Frm dA o b i u sN sT sP sI) ∧ ov = (some (.int r)))) args s 0 0 A) (F0 m 51 ls [.ref (o 96)]) := by
  have hx := C.1.1
  have hb := C.1.2.1
  have hown := C.1.2.2.2.2.1
  have hT := C.1.2.2.2.2.2.1
  unfold C_Frm_valueOf_51 at hM
  refine lv_iconst (pc := 51) (v := 1) hx hb dC_Frm_valueOf_51 (by decide) ?_
  refine lv_goto (pc := 52) (tgt := 56) hx hb dC_Frm_valueOf_52 (by decide) ?_
  exact bC_Frm_valueOf_56  C  _ _ _ _ _ _ _ hM _ _ hW _ (lv_sub hl [0] rfl)
def C_Frm_valueOf (x1 : Int32) (sF : CS) (sN : CS) (sT : CS) (sP : CS) (sI : CS) : Option (Int32 × CS) :=
  cr (C_Row_get  x1 (rg sN 0)) (fun r1 => cr (C_Row_get  x1 (rg sN 1)) (fun r2 => (if r1 = (1 : Int32) then cr (C_Prg_addressOf  r2 sP sI) (fun r3 => some (r3, sF)) else (if (sF.1 4) = 0 then (if r1 = (2 : Int32) then C_Frm_valueOf_56  r2 (0 : Int32) sF sN sT sP sI else C_Frm_valueOf_51  r2 sF sN sT sP sI) else C_Frm_valueOf_51  r2 sF sN sT sP sI))))
set_option maxHeartbeats 4000000 in
set_option maxRecDepth 100000 in
theorem bC_Frm_valueOf_0  {r : Int32} {u : CS} (C : CxC R_Frm p s m args meth c cC_Frm_valueOf 4 (some .int) D dA (zz o) A) (x1 : Int32) (sF : CS) (sN : CS) (sT : CS) (sP : CS) (sI : CS) (hM : C_Frm_valueOf  x1 sF sN sT sP sI = some (r, u)) (H : Heap) (locs : List Loc) (hW : WdC D A s (w_Frm dA o b i sF sN sT sP sI) H locs) (ls : Array Slot) (hl : lv_has ls 4 [(0, .ref (o 96)), (1, .int x1)]) : W p l e (rmC 4 142 0 0) s m args below meth c H locs 0 0 (MQ below (QC D A (fun Ws' ov => Ws' = (w_Frm dA o b i u sN sT sP sI) ∧ ov = (some (.int r)))) args s 0 0 A) (F0 m 0 ls []) := by
  have hx := C.1.1
  have hb := C.1.2.1
  have hown := C.1.2.2.2.2.1
  have hT := C.1.2.2.2.2.2.1
  unfold C_Frm_valueOf at hM
  refine lv_aload_n (pc := 0) hx hb dC_Frm_valueOf_0 rfl (lv_at hl 0 rfl) ?_
  refine x_getC (pc := 1) C hW 0 rfl (ci := 7) rfl i_Frm 2 (by decide) qc_467 rfl rfl dC_Frm_valueOf_1 ?_
  refine x_getC (pc := 4) C hW 9 rfl (ci := 2) rfl i_Nam 0 (by decide) qc_216 rfl rfl dC_Frm_valueOf_4 ?_
  refine lv_iload_n (pc := 7) hx hb dC_Frm_valueOf_7 rfl (lv_at hl 1 rfl) ?_
  obtain ⟨r1, hr1, hM⟩ := cr_some hM
  refine x_callQ (pc := 8) (n' := 40) (ov := some (.int r1)) C hW (kC_Row_get l D dA (zz o) (fun _ => o 17) (fun _ => b 17)  x1 (rg sN 0) hr1) [10, 11, 0, 1, 2, 3, 4, 5, 6, 7, 8, 9, 12, 13, 14, 15, 16, 17, 18, 19, 20, 21, 22, 23, 24, 25, 26, 27, 28, 29, 30, 31, 32, 33, 34, 35, 36, 37, 38, 39] rfl (by decide +kernel) rfl (ci := 1) rfl (q0 := 10) rfl gC_Frm_110 ⟨rfl, by decide, by decide, by decide +kernel⟩ ⟨Nat.le_of_ble_eq_true rfl, Nat.le_of_ble_eq_true rfl⟩ ⟨Nat.le_refl _, Nat.le_refl _⟩ (As := [.int x1]) (n := 1) rfl hl.1 rfl (Nat.le_of_ble_eq_true rfl) dC_Frm_valueOf_8 ?_
  refine lv_istore_n (pc := 11) (lv' := [(2, .int r1), (0, .ref (o 96)), (1, .int x1)]) hx hb dC_Frm_valueOf_11 rfl hl (by decide) rfl (fun ls hl => ?_)
  refine lv_aload_n (pc := 12) hx hb dC_Frm_valueOf_12 rfl (lv_at hl 1 rfl) ?_
  refine x_getC (pc := 13) C hW 0 rfl (ci := 7) rfl i_Frm 2 (by decide) qc_467 rfl rfl dC_Frm_valueOf_13 ?_
  refine x_getC (pc := 16) C hW 9 rfl (ci := 2) rfl i_Nam 1 (by decide) qc_218 rfl rfl dC_Frm_valueOf_16 ?_
  refine lv_iload_n (pc := 19) hx hb dC_Frm_valueOf_19 rfl (lv_at hl 2 rfl) ?_
  obtain ⟨r2, hr2, hM⟩ := cr_some hM
  refine x_callQ (pc := 20) (n' := 40) (ov := some (.int r2)) C hW (kC_Row_get l D dA (zz o) (fun _ => o 18) (fun _ => b 18)  x1 (rg sN 1) hr2) [12, 13, 0, 1, 2, 3, 4, 5, 6, 7, 8, 9, 10, 11, 14, 15, 16, 17, 18, 19, 20, 21, 22, 23, 24, 25, 26, 27, 28, 29, 30, 31, 32, 33, 34, 35, 36, 37, 38, 39] rfl (by decide +kernel) rfl (ci := 1) rfl (q0 := 12) rfl gC_Frm_110 ⟨rfl, by decide, by decide, by decide +kernel⟩ ⟨Nat.le_of_ble_eq_true rfl, Nat.le_of_ble_eq_true rfl⟩ ⟨Nat.le_refl _, Nat.le_refl _⟩ (As := [.int x1]) (n := 1) rfl hl.1 rfl (Nat.le_of_ble_eq_true rfl) dC_Frm_valueOf_20 ?_
  refine lv_istore_n (pc := 23) (lv' := [(3, .int r2), (2, .int r1), (0, .ref (o 96)), (1, .int x1)]) hx hb dC_Frm_valueOf_23 rfl hl (by decide) rfl (fun ls hl => ?_)
  refine lv_iload_n (pc := 24) hx hb dC_Frm_valueOf_24 rfl (lv_at hl 1 rfl) ?_
  refine lv_iconst (pc := 25) (v := 1) hx hb dC_Frm_valueOf_25 (by decide) ?_
  refine lv_icmp_ne (pc := 26) (tgt := 38) hx hb dC_Frm_valueOf_26 (by decide) (fun hc => ?_) (fun hc => ?_)
  · replace hM := it_f hc hM
    refine lv_aload_n (pc := 38) hx hb dC_Frm_valueOf_38 rfl (lv_at hl 2 rfl) ?_
    refine lv_aload_n (pc := 39) hx hb dC_Frm_valueOf_39 rfl (lv_at hl 2 rfl) ?_
    refine x_getC (pc := 40) C hW 0 rfl (ci := 7) rfl i_Frm 11 (by decide) qc_476 rfl rfl dC_Frm_valueOf_40 ?_
    refine lv_if_ne (pc := 43) (tgt := 51) hx hb dC_Frm_valueOf_43 (by decide) (fun hc => ?_) (fun hc => ?_)
    · replace hM := it_f hc hM
      exact bC_Frm_valueOf_51  C  _ _ _ _ _ _ hM _ _ hW _ (lv_sub hl [0] rfl)
    · replace hM := it_t hc hM
      refine lv_iload_n (pc := 46) hx hb dC_Frm_valueOf_46 rfl (lv_at hl 1 rfl) ?_
      refine lv_iconst (pc := 47) (v := 2) hx hb dC_Frm_valueOf_47 (by decide) ?_
      refine lv_icmp_eq (pc := 48) (tgt := 55) hx hb dC_Frm_valueOf_48 (by decide) (fun hc => ?_) (fun hc => ?_)
      · replace hM := it_t hc hM
        refine lv_iconst (pc := 55) (v := 0) hx hb dC_Frm_valueOf_55 (by decide) ?_
        exact bC_Frm_valueOf_56  C  _ _ _ _ _ _ _ hM _ _ hW _ (lv_sub hl [0] rfl)
      · replace hM := it_f hc hM
        exact bC_Frm_valueOf_51  C  _ _ _ _ _ _ hM _ _ hW _ (lv_sub hl [0] rfl)
  · replace hM := it_t hc hM
    refine lv_aload_n (pc := 29) hx hb dC_Frm_valueOf_29 rfl (lv_at hl 2 rfl) ?_
    refine x_getC (pc := 30) C hW 0 rfl (ci := 7) rfl i_Frm 4 (by decide) qc_469 rfl rfl dC_Frm_valueOf_30 ?_
    refine lv_iload_n (pc := 33) hx hb dC_Frm_valueOf_33 rfl (lv_at hl 0 rfl) ?_
    obtain ⟨r3, hr3, hM⟩ := cr_some hM
    refine x_callQ (pc := 34) (n' := 40) (ov := some (.int r3)) C hW (kC_Prg_addressOf l D dA o b i  r2 sP sI hr3) [33, 34, 35, 36, 37, 38, 39, 0, 1, 2, 3, 4, 5, 6, 7, 8, 9, 10, 11, 12, 13, 14, 15, 16, 17, 18, 19, 20, 21, 22, 23, 24, 25, 26, 27, 28, 29, 30, 31, 32] rfl (by decide +kernel) rfl (ci := 5) rfl (q0 := 33) rfl gC_Frm_127 ⟨rfl, by decide, by decide, by decide +kernel⟩ ⟨Nat.le_of_ble_eq_true rfl, Nat.le_of_ble_eq_true rfl⟩ ⟨Nat.le_refl _, Nat.le_refl _⟩ (As := [.int r2]) (n := 1) rfl hl.1 rfl (Nat.le_of_ble_eq_true rfl) dC_Frm_valueOf_34 ?_
    obtain ⟨rfl, rfl⟩ := sm_p hM
    exact x_retCi (pc := 37) C rfl hW ⟨rfl, rfl⟩ (Nat.le_refl 0) (Nat.le_refl 0) dC_Frm_valueOf_37
theorem kC_Frm_valueOf (l : Launch) (D : va_G) (dA : Nat → ClassId) (o b i : Nat → Nat) (x1 : Int32) (sF : CS) (sN : CS) (sT : CS) (sP : CS) (sI : CS) {r : Int32} {u : CS} (hM : C_Frm_valueOf x1 sF sN sT sP sI = some (r, u)) : KC l D dA (zz o) yC_Frm_valueOf cC_Frm_valueOf 4 (some .int) 4 142 0 0 (w_Frm dA o b i sF sN sT sP sI) [.ref (o 96), .int x1] (fun Ws' ov => Ws' = (w_Frm dA o b i u sN sT sP sI) ∧ ov = (some (.int r))) := x_enterC (by decide +kernel) (Nat.le_of_ble_eq_true rfl) (fun p e s m args below meth c A C _ hW ls hl => bC_Frm_valueOf_0 C x1 sF sN sT sP sI hM s.heap [] hW ls hl)
def C_Frm_nearAddress_46 (x3 : Int32) (t1 : Int32) (sF : CS) (sN : CS) (sT : CS) (sP : CS) (sI : CS) : Option (Int32 × CS) :=
  gd (isB t1) (bnd (cF sF 4 t1) (fun sF2 => cr (C_Prg_addressOf  x3 sP sI) (fun r3 => some (r3, sF2))))
set_option maxHeartbeats 4000000 in
set_option maxRecDepth 100000 in
theorem bC_Frm_nearAddress_46  {r : Int32} {u : CS} (C : CxC R_Frm p s m args meth c cC_Frm_nearAddress 4 (some .int) D dA (zz o) A) (x3 : Int32) (t1 : Int32) (sF : CS) (sN : CS) (sT : CS) (sP : CS) (sI : CS) (hM : C_Frm_nearAddress_46  x3 t1 sF sN sT sP sI = some (r, u)) (H : Heap) (locs : List Loc) (hW : WdC D A s (w_Frm dA o b i sF sN sT sP sI) H locs) (ls : Array Slot) (hl : lv_has ls 4 [(0, .ref (o 96)), (3, .int x3)]) : W p l e (rmC 4 142 0 0) s m args below meth c H locs 0 0 (MQ below (QC D A (fun Ws' ov => Ws' = (w_Frm dA o b i u sN sT sP sI) ∧ ov = (some (.int r)))) args s 0 0 A) (F0 m 46 ls [.int t1, .ref (o 96)]) := by
  have hx := C.1.1
  have hb := C.1.2.1
  have hown := C.1.2.2.2.2.1
  have hT := C.1.2.2.2.2.2.1
  unfold C_Frm_nearAddress_46 at hM
  obtain ⟨hg1, hM⟩ := gd_some hM
  refine x_putC (pc := 46) (ty := .boolean) (Ws' := (w_Frm dA o b i (cF sF 4 t1) sN sT sP sI)) C hW 0 rfl (ci := 7) rfl i_Frm tok_Frm n_Frm 11 (by decide) qc_476 rfl rfl (by decide +kernel) (isB_n hg1) (isB_f hg1) (Nat.le_of_ble_eq_true rfl) rfl dC_Frm_nearAddress_46 (fun H locs hW => ?_)
  obtain ⟨sF2, esF2, hM⟩ := bnd_some hM
  rw [← esF2] at hW
  refine lv_aload_n (pc := 49) hx hb dC_Frm_nearAddress_49 rfl (lv_at hl 0 rfl) ?_
  refine x_getC (pc := 50) C hW 0 rfl (ci := 7) rfl i_Frm 4 (by decide) qc_469 rfl rfl dC_Frm_nearAddress_50 ?_
  refine lv_iload_n (pc := 53) hx hb dC_Frm_nearAddress_53 rfl (lv_at hl 1 rfl) ?_
  obtain ⟨r3, hr3, hM⟩ := cr_some hM
  refine x_callQ (pc := 54) (n' := 40) (ov := some (.int r3)) C hW (kC_Prg_addressOf l D dA o b i  x3 sP sI hr3) [33, 34, 35, 36, 37, 38, 39, 0, 1, 2, 3, 4, 5, 6, 7, 8, 9, 10, 11, 12, 13, 14, 15, 16, 17, 18, 19, 20, 21, 22, 23, 24, 25, 26, 27, 28, 29, 30, 31, 32] rfl (by decide +kernel) rfl (ci := 5) rfl (q0 := 33) rfl gC_Frm_127 ⟨rfl, by decide, by decide, by decide +kernel⟩ ⟨Nat.le_of_ble_eq_true rfl, Nat.le_of_ble_eq_true rfl⟩ ⟨Nat.le_refl _, Nat.le_refl _⟩ (As := [.int x3]) (n := 1) rfl hl.1 rfl (Nat.le_of_ble_eq_true rfl) dC_Frm_nearAddress_54 ?_
  obtain ⟨rfl, rfl⟩ := sm_p hM
  exact x_retCi (pc := 57) C rfl hW ⟨rfl, rfl⟩ (Nat.le_refl 0) (Nat.le_refl 0) dC_Frm_nearAddress_57
def C_Frm_nearAddress_41 (x3 : Int32) (sF : CS) (sN : CS) (sT : CS) (sP : CS) (sI : CS) : Option (Int32 × CS) :=
  C_Frm_nearAddress_46  x3 (1 : Int32) sF sN sT sP sI
set_option maxHeartbeats 4000000 in
set_option maxRecDepth 100000 in
theorem bC_Frm_nearAddress_41  {r : Int32} {u : CS} (C : CxC R_Frm p s m args meth c cC_Frm_nearAddress 4 (some .int) D dA (zz o) A) (x3 : Int32) (sF : CS) (sN : CS) (sT : CS) (sP : CS) (sI : CS) (hM : C_Frm_nearAddress_41  x3 sF sN sT sP sI = some (r, u)) (H : Heap) (locs : List Loc) (hW : WdC D A s (w_Frm dA o b i sF sN sT sP sI) H locs) (ls : Array Slot) (hl : lv_has ls 4 [(0, .ref (o 96)), (3, .int x3)]) : W p l e (rmC 4 142 0 0) s m args below meth c H locs 0 0 (MQ below (QC D A (fun Ws' ov => Ws' = (w_Frm dA o b i u sN sT sP sI) ∧ ov = (some (.int r)))) args s 0 0 A) (F0 m 41 ls [.ref (o 96)]) := by
  have hx := C.1.1
  have hb := C.1.2.1
  have hown := C.1.2.2.2.2.1
  have hT := C.1.2.2.2.2.2.1
  unfold C_Frm_nearAddress_41 at hM
  refine lv_iconst (pc := 41) (v := 1) hx hb dC_Frm_nearAddress_41 (by decide) ?_
  refine lv_goto (pc := 42) (tgt := 46) hx hb dC_Frm_nearAddress_42 (by decide) ?_
  exact bC_Frm_nearAddress_46  C  _ _ _ _ _ _ _ hM _ _ hW _ (lv_sub hl [0, 1] rfl)
def C_Frm_nearAddress_21 (t0 : Int32) (sF : CS) (sN : CS) (sT : CS) (sP : CS) (sI : CS) : Option (Int32 × CS) :=
  (if (sF.1 4) = 0 then cr (C_Prg_isInText  t0 sP sI) (fun r1 => (if r1 = 0 then C_Frm_nearAddress_41  t0 sF sN sT sP sI else C_Frm_nearAddress_46  t0 (0 : Int32) sF sN sT sP sI)) else C_Frm_nearAddress_41  t0 sF sN sT sP sI)
set_option maxHeartbeats 4000000 in
set_option maxRecDepth 100000 in
theorem bC_Frm_nearAddress_21  {r : Int32} {u : CS} (C : CxC R_Frm p s m args meth c cC_Frm_nearAddress 4 (some .int) D dA (zz o) A) (t0 : Int32) (sF : CS) (sN : CS) (sT : CS) (sP : CS) (sI : CS) (hM : C_Frm_nearAddress_21  t0 sF sN sT sP sI = some (r, u)) (H : Heap) (locs : List Loc) (hW : WdC D A s (w_Frm dA o b i sF sN sT sP sI) H locs) (ls : Array Slot) (hl : lv_has ls 4 [(0, .ref (o 96))]) : W p l e (rmC 4 142 0 0) s m args below meth c H locs 0 0 (MQ below (QC D A (fun Ws' ov => Ws' = (w_Frm dA o b i u sN sT sP sI) ∧ ov = (some (.int r)))) args s 0 0 A) (F0 m 21 ls [.int t0]) := by
  have hx := C.1.1
  have hb := C.1.2.1
  have hown := C.1.2.2.2.2.1
  have hT := C.1.2.2.2.2.2.1
  unfold C_Frm_nearAddress_21 at hM
  refine lv_istore_n (pc := 21) (lv' := [(3, .int t0), (0, .ref (o 96))]) hx hb dC_Frm_nearAddress_21 rfl hl (by decide) rfl (fun ls hl => ?_)
  refine lv_aload_n (pc := 22) hx hb dC_Frm_nearAddress_22 rfl (lv_at hl 1 rfl) ?_
  refine lv_aload_n (pc := 23) hx hb dC_Frm_nearAddress_23 rfl (lv_at hl 1 rfl) ?_
  refine x_getC (pc := 24) C hW 0 rfl (ci := 7) rfl i_Frm 11 (by decide) qc_476 rfl rfl dC_Frm_nearAddress_24 ?_
  refine lv_if_ne (pc := 27) (tgt := 41) hx hb dC_Frm_nearAddress_27 (by decide) (fun hc => ?_) (fun hc => ?_)
  · replace hM := it_f hc hM
    exact bC_Frm_nearAddress_41  C  _ _ _ _ _ _ hM _ _ hW _ (lv_sub hl [1, 0] rfl)
  · replace hM := it_t hc hM
    refine lv_aload_n (pc := 30) hx hb dC_Frm_nearAddress_30 rfl (lv_at hl 1 rfl) ?_
    refine x_getC (pc := 31) C hW 0 rfl (ci := 7) rfl i_Frm 4 (by decide) qc_469 rfl rfl dC_Frm_nearAddress_31 ?_
    refine lv_iload_n (pc := 34) hx hb dC_Frm_nearAddress_34 rfl (lv_at hl 0 rfl) ?_
    obtain ⟨r1, hr1, hM⟩ := cr_some hM
    refine x_callQ (pc := 35) (n' := 40) (ov := some (.int r1)) C hW (kC_Prg_isInText l D dA o b i  t0 sP sI hr1) [33, 34, 35, 36, 37, 38, 39, 0, 1, 2, 3, 4, 5, 6, 7, 8, 9, 10, 11, 12, 13, 14, 15, 16, 17, 18, 19, 20, 21, 22, 23, 24, 25, 26, 27, 28, 29, 30, 31, 32] rfl (by decide +kernel) rfl (ci := 5) rfl (q0 := 33) rfl gC_Frm_155 ⟨rfl, by decide, by decide, by decide +kernel⟩ ⟨Nat.le_of_ble_eq_true rfl, Nat.le_of_ble_eq_true rfl⟩ ⟨Nat.le_refl _, Nat.le_refl _⟩ (As := [.int t0]) (n := 1) rfl hl.1 rfl (Nat.le_of_ble_eq_true rfl) dC_Frm_nearAddress_35 ?_
    refine lv_if_ne (pc := 38) (tgt := 45) hx hb dC_Frm_nearAddress_38 (by decide) (fun hc => ?_) (fun hc => ?_)
    · replace hM := it_f hc hM
      refine lv_iconst (pc := 45) (v := 0) hx hb dC_Frm_nearAddress_45 (by decide) ?_
      exact bC_Frm_nearAddress_46  C  _ _ _ _ _ _ _ hM _ _ hW _ (lv_sub hl [1, 0] rfl)
    · replace hM := it_t hc hM
      exact bC_Frm_nearAddress_41  C  _ _ _ _ _ _ hM _ _ hW _ (lv_sub hl [1, 0] rfl)
def C_Frm_nearAddress (x1 : Int32) (x2 : Int32) (sF : CS) (sN : CS) (sT : CS) (sP : CS) (sI : CS) : Option (Int32 × CS) :=
  (if x1 = (9 : Int32) then cr (C_Prg_find  x2 sP sI) (fun r1 => gd (decide (r1 < sI.2.2 0 + 1)) (C_Frm_nearAddress_21  (sI.2.1 r1 3) sF sN sT sP sI)) else C_Frm_nearAddress_21  x2 sF sN sT sP sI)
set_option maxHeartbeats 4000000 in
set_option maxRecDepth 100000 in
theorem bC_Frm_nearAddress_0  {r : Int32} {u : CS} (C : CxC R_Frm p s m args meth c cC_Frm_nearAddress 4 (some .int) D dA (zz o) A) (x1 : Int32) (x2 : Int32) (sF : CS) (sN : CS) (sT : CS) (sP : CS) (sI : CS) (hM : C_Frm_nearAddress  x1 x2 sF sN sT sP sI = some (r, u)) (H : Heap) (locs : List Loc) (hW : WdC D A s (w_Frm dA o b i sF sN sT sP sI) H locs) (ls : Array Slot) (hl : lv_has ls 4 [(0, .ref (o 96)), (1, .int x1), (2, .int x2)]) : W p l e (rmC 4 142 0 0) s m args below meth c H locs 0 0 (MQ below (QC D A (fun Ws' ov => Ws' = (w_Frm dA o b i u sN sT sP sI) ∧ ov = (some (.int r)))) args s 0 0 A) (F0 m 0 ls []) := by
  have hx := C.1.1
  have hb := C.1.2.1
  have hown := C.1.2.2.2.2.1
  have hT := C.1.2.2.2.2.2.1
  unfold C_Frm_nearAddress at hM
  refine lv_iload_n (pc := 0) hx hb dC_Frm_nearAddress_0 rfl (lv_at hl 1 rfl) ?_
  refine lv_bipush (pc := 1) (v := 9) hx hb dC_Frm_nearAddress_1 (by decide) ?_
  refine lv_icmp_ne (pc := 3) (tgt := 20) hx hb dC_Frm_nearAddress_3 (by decide) (fun hc => ?_) (fun hc => ?_)
  · replace hM := it_f hc hM
    refine lv_iload_n (pc := 20) hx hb dC_Frm_nearAddress_20 rfl (lv_at hl 2 rfl) ?_
    exact bC_Frm_nearAddress_21  C  _ _ _ _ _ _ hM _ _ hW _ (lv_sub hl [0] rfl)
  · replace hM := it_t hc hM
    refine lv_aload_n (pc := 6) hx hb dC_Frm_nearAddress_6 rfl (lv_at hl 0 rfl) ?_
    refine x_getC (pc := 7) C hW 0 rfl (ci := 7) rfl i_Frm 4 (by decide) qc_469 rfl rfl dC_Frm_nearAddress_7 ?_
    refine lv_iload_n (pc := 10) hx hb dC_Frm_nearAddress_10 rfl (lv_at hl 2 rfl) ?_
    obtain ⟨r1, hr1, hM⟩ := cr_some hM
    refine x_callQ (pc := 11) (n' := 40) (ov := some (.ref (pa o i r1))) C hW (kC_Prg_find l D dA o b i  x2 sP sI hr1) [33, 34, 35, 36, 37, 38, 39, 0, 1, 2, 3, 4, 5, 6, 7, 8, 9, 10, 11, 12, 13, 14, 15, 16, 17, 18, 19, 20, 21, 22, 23, 24, 25, 26, 27, 28, 29, 30, 31, 32] rfl (by decide +kernel) rfl (ci := 5) rfl (q0 := 33) rfl gC_Frm_146 ⟨rfl, by decide, by decide, by decide +kernel⟩ ⟨Nat.le_of_ble_eq_true rfl, Nat.le_of_ble_eq_true rfl⟩ ⟨Nat.le_refl _, Nat.le_refl _⟩ (As := [.int x2]) (n := 1) rfl hl.1 rfl (Nat.le_of_ble_eq_true rfl) dC_Frm_nearAddress_11 ?_
    obtain ⟨hg2, hM⟩ := gd_some hM
    refine x_getI (pc := 14) C hW 39 rfl (of_decide_eq_true hg2) 3 (by decide) qc_348 rfl rfl dC_Frm_nearAddress_14 ?_
    refine lv_goto (pc := 17) (tgt := 21) hx hb dC_Frm_nearAddress_17 (by decide) ?_
    exact bC_Frm_nearAddress_21  C  _ _ _ _ _ _ hM _ _ hW _ (lv_sub hl [0] rfl)
theorem kC_Frm_nearAddress (l : Launch) (D : va_G) (dA : Nat → ClassId) (o b i : Nat → Nat) (x1 : Int32) (x2 : Int32) (sF : CS) (sN : CS) (sT : CS) (sP : CS) (sI : CS) {r : Int32} {u : CS} (hM : C_Frm_nearAddress x1 x2 sF sN sT sP sI = some (r, u)) : KC l D dA (zz o) yC_Frm_nearAddress cC_Frm_nearAddress 4 (some .int) 4 142 0 0 (w_Frm dA o b i sF sN sT sP sI) [.ref (o 96), .int x1, .int x2] (fun Ws' ov => Ws' = (w_Frm dA o b i u sN sT sP sI) ∧ ov = (some (.int r))) := x_enterC (by decide +kernel) (Nat.le_of_ble_eq_true rfl) (fun p e s m args below meth c A C _ hW ls hl => bC_Frm_nearAddress_0 C x1 x2 sF sN sT sP sI hM s.heap [] hW ls hl)
def C_Frm_evaluate_297 (N : Nat) (t0 : Int32) (sF : CS) (sN : CS) (sT : CS) (sP : CS) (sI : CS) : Option ((Int32 × CS) × (Nat × Nat)) :=
  some ((t0, sF), (0, 0))
set_option maxHeartbeats 4000000 in
set_option maxRecDepth 100000 in
theorem bC_Frm_evaluate_297 (N : Nat)  {r : Int32} {u : CS} {DC DS : Nat} (C : CxC R_Frm p s m args meth c cC_Frm_evaluate 9 (some .int) D dA (zz o) A) (t0 : Int32) (sF : CS) (sN : CS) (sT : CS) (sP : CS) (sI : CS) (dc ds kc ks : Nat) (hM : C_Frm_evaluate_297 N  t0 sF sN sT sP sI = some ((r, u), (dc, ds))) (hdc : kc + dc ≤ DC) (hds : ks + ds ≤ DS) (b : Nat → Nat) (H : Heap) (locs : List Loc) (hW : WdC D A s (w_Frm dA o b i sF sN sT sP sI) H locs) (ls : Array Slot) (hl : lv_has ls 9 []) : W p l e (rmC 5 165 DC DS) s m args below meth c H locs kc ks (MQ below (QC D A (fun Ws' ov => ∃ b' : Nat → Nat, Ws' = (w_Frm dA o b' i u sN sT sP sI) ∧ ov = (some (.int r)))) args s DC DS A) (F0 m 297 ls [.int t0]) := by
  have hx := C.1.1
  have hb := C.1.2.1
  have hown := C.1.2.2.2.2.1
  have hT := C.1.2.2.2.2.2.1
  unfold C_Frm_evaluate_297 at hM
  obtain ⟨rfl, rfl, rfl, rfl⟩ := sm_q hM
  exact x_retCi (pc := 297) C rfl hW ⟨_, rfl, rfl⟩ (by omega) (by omega) dC_Frm_evaluate_297
def C_Frm_evaluate_254 (N : Nat) (rec21 : Int32 → Int32 → Int32 → CS → CS → CS → CS → CS → Option ((Int32 × CS) × (Nat × Nat))) (x2 : Int32) (x3 : Int32) (x4 : Int32) (sF : CS) (sN : CS) (sT : CS) (sP : CS) (sI : CS) : Option ((Int32 × CS) × (Nat × Nat)) :=
  rec21 x2 x3 (x4 + (1 : Int32)) sF sN sT sP sI
set_option maxHeartbeats 4000000 in
set_option maxRecDepth 100000 in
theorem bC_Frm_evaluate_254 (N : Nat) (rec21 : Int32 → Int32 → Int32 → CS → CS → CS → CS → CS → Option ((Int32 × CS) × (Nat × Nat))) {r : Int32} {u : CS} {DC DS : Nat} (C : CxC R_Frm p s m args meth c cC_Frm_evaluate 9 (some .int) D dA (zz o) A) (hrec21 : ∀ (x2 : Int32) (x3 : Int32) (x4 : Int32) (sF : CS) (sN : CS) (sT : CS) (sP : CS) (sI : CS) (dc ds kc ks : Nat) , rec21 x2 x3 x4 sF sN sT sP sI = some ((r, u), (dc, ds)) → ∀ (hdc : kc + dc ≤ DC) (hds : ks + ds ≤ DS) (b : Nat → Nat) (H : Heap) (locs : List Loc) (hW : WdC D A s (w_Frm dA o b i sF sN sT sP sI) H locs) (ls : Array Slot) (hl : lv_has ls 9 [(0, .ref (o 96)), (2, .int x2), (3, .int x3), (4, .int x4)]), W p l e (rmC 5 165 DC DS) s m args below meth c H locs kc ks (MQ below (QC D A (fun Ws' ov => ∃ b' : Nat → Nat, Ws' = (w_Frm dA o b' i u sN sT sP sI) ∧ ov = (some (.int r)))) args s DC DS A) (F0 m 21 ls [])) (x2 : Int32) (x3 : Int32) (x4 : Int32) (sF : CS) (sN : CS) (sT : CS) (sP : CS) (sI : CS) (dc ds kc ks : Nat) (hM : C_Frm_evaluate_254 N rec21 x2 x3 x4 sF sN sT sP sI = some ((r, u), (dc, ds))) (hdc : kc + dc ≤ DC) (hds : ks + ds ≤ DS) (b : Nat → Nat) (H : Heap) (locs : List Loc) (hW : WdC D A s (w_Frm dA o b i sF sN sT sP sI) H locs) (ls : Array Slot) (hl : lv_has ls 9 [(0, .ref (o 96)), (2, .int x2), (3, .int x3), (4, .int x4)]) : W p l e (rmC 5 165 DC DS) s m args below meth c H locs kc ks (MQ below (QC D A (fun Ws' ov => ∃ b' : Nat → Nat, Ws' = (w_Frm dA o b' i u sN sT sP sI) ∧ ov = (some (.int r)))) args s DC DS A) (F0 m 254 ls []) := by
  have hx := C.1.1
  have hb := C.1.2.1
  have hown := C.1.2.2.2.2.1
  have hT := C.1.2.2.2.2.2.1
  unfold C_Frm_evaluate_254 at hM
  refine lv_iinc (pc := 254) (v := x4 + (1 : Int32)) (lv' := [(4, .int (x4 + (1 : Int32))), (0, .ref (o 96)), (2, .int x2), (3, .int x3)]) hx hb dC_Frm_evaluate_254 hl (k := 3) rfl rfl (by decide) rfl (fun ls hl => ?_)
  refine lv_goto (pc := 257) (tgt := 21) hx hb dC_Frm_evaluate_257 (by decide) ?_
  exact hrec21 _ _ _ _ _ _ _ _ _ _ _ _ hM (by omega) (by omega) _ _ _ hW _ (lv_sub hl [1, 2, 3, 0] rfl)
def C_Frm_evaluate_128 (N : Nat) (rec21 : Int32 → Int32 → Int32 → CS → CS → CS → CS → CS → Option ((Int32 × CS) × (Nat × Nat))) (x2 : Int32) (x3 : Int32) (x4 : Int32) (x5 : Int32) (x6 : Int32) (sF : CS) (sN : CS) (sT : CS) (sP : CS) (sI : CS) : Option ((Int32 × CS) × (Nat × Nat)) :=
  cl (C_Frm_nearAddress  x5 x6 sF sN sT sP sI) (fun r1 u2 => ct (C_Row_add  r1 (rg u2 3)) (fun r3 u4 => bnd (rs u2 3 u4) (fun sF10 => C_Frm_evaluate_254 N rec21 x2 x3 x4 sF10 sN sT sP sI)))
set_option maxHeartbeats 4000000 in
set_option maxRecDepth 100000 in
theorem bC_Frm_evaluate_128 (N : Nat) (rec21 : Int32 → Int32 → Int32 → CS → CS → CS → CS → CS → Option ((Int32 × CS) × (Nat × Nat))) {r : Int32} {u : CS} {DC DS : Nat} (C : CxC R_Frm p s m args meth c cC_Frm_evaluate 9 (some .int) D dA (zz o) A) (hrec21 : ∀ (x2 : Int32) (x3 : Int32) (x4 : Int32) (sF : CS) (sN : CS) (sT : CS) (sP : CS) (sI : CS) (dc ds kc ks : Nat) , rec21 x2 x3 x4 sF sN sT sP sI = some ((r, u), (dc, ds)) → ∀ (hdc : kc + dc ≤ DC) (hds : ks + ds ≤ DS) (b : Nat → Nat) (H : Heap) (locs : List Loc) (hW : WdC D A s (w_Frm dA o b i sF sN sT sP sI) H locs) (ls : Array Slot) (hl : lv_has ls 9 [(0, .ref (o 96)), (2, .int x2), (3, .int x3), (4, .int x4)]), W p l e (rmC 5 165 DC DS) s m args below meth c H locs kc ks (MQ below (QC D A (fun Ws' ov => ∃ b' : Nat → Nat, Ws' = (w_Frm dA o b' i u sN sT sP sI) ∧ ov = (some (.int r)))) args s DC DS A) (F0 m 21 ls [])) (x2 : Int32) (x3 : Int32) (x4 : Int32) (x5 : Int32) (x6 : Int32) (sF : CS) (sN : CS) (sT : CS) (sP : CS) (sI : CS) (dc ds kc ks : Nat) (hM : C_Frm_evaluate_128 N rec21 x2 x3 x4 x5 x6 sF sN sT sP sI = some ((r, u), (dc, ds))) (hdc : kc + dc ≤ DC) (hds : ks + ds ≤ DS) (b : Nat → Nat) (H : Heap) (locs : List Loc) (hW : WdC D A s (w_Frm dA o b i sF sN sT sP sI) H locs) (ls : Array Slot) (hl : lv_has ls 9 [(0, .ref (o 96)), (2, .int x2), (3, .int x3), (4, .int x4), (5, .int x5), (6, .int x6)]) : W p l e (rmC 5 165 DC DS) s m args below meth c H locs kc ks (MQ below (QC D A (fun Ws' ov => ∃ b' : Nat → Nat, Ws' = (w_Frm dA o b' i u sN sT sP sI) ∧ ov = (some (.int r)))) args s DC DS A) (F0 m 128 ls []) := by
  have hx := C.1.1
  have hb := C.1.2.1
  have hown := C.1.2.2.2.2.1
  have hT := C.1.2.2.2.2.2.1
  unfold C_Frm_evaluate_128 at hM
  refine lv_aload_n (pc := 128) hx hb dC_Frm_evaluate_128 rfl (lv_at hl 0 rfl) ?_
  refine x_getC (pc := 129) C hW 0 rfl (ci := 7) rfl i_Frm 8 (by decide) qc_473 rfl rfl dC_Frm_evaluate_129 ?_
  refine lv_aload_n (pc := 132) hx hb dC_Frm_evaluate_132 rfl (lv_at hl 0 rfl) ?_
  refine lv_iload (pc := 133) hx hb dC_Frm_evaluate_133 (lv_at hl 4 rfl) ?_
  refine lv_iload (pc := 135) hx hb dC_Frm_evaluate_135 (lv_at hl 5 rfl) ?_
  obtain ⟨r1, u2, hr1, hM⟩ := cl_some hM
  refine x_callC (pc := 137) (n' := 40) C hW (kC_Frm_nearAddress l D dA o b i  x5 x6 sF sN sT sP sI hr1) [0, 1, 2, 3, 4, 5, 6, 7, 8, 9, 10, 11, 12, 13, 14, 15, 16, 17, 18, 19, 20, 21, 22, 23, 24, 25, 26, 27, 28, 29, 30, 31, 32, 33, 34, 35, 36, 37, 38, 39] rfl (by decide +kernel) rfl (ci := 7) rfl (q0 := 0) rfl gC_Frm_130 ⟨rfl, by decide, by decide, by decide +kernel⟩ ⟨Nat.le_of_ble_eq_true rfl, Nat.le_of_ble_eq_true rfl⟩ ⟨show _ + 0 ≤ DC by omega, show _ + 0 ≤ DS by omega⟩ (As := [.int x5, .int x6]) (n := 2) rfl hl.1 rfl (Nat.le_of_ble_eq_true rfl) dC_Frm_evaluate_137 (fun Wc' ov H locs hPo hWn => ?_)
  obtain ⟨rfl, rfl⟩ := hPo
  have hW := hWn (w_Frm dA o b i u2 sN sT sP sI) rfl rfl
  obtain ⟨r3, u4, da5, ea6, db7, eb8, hr3, hM, hqda5, hpda5⟩ := ct_some hM
  refine x_callC (pc := 140) (n' := 40) C hW (kC_Row_add l D dA (zz o) (fun _ => o 100) (fun _ => b 100)  r1 (rg u2 3) hr3) [7, 8, 0, 1, 2, 3, 4, 5, 6, 9, 10, 11, 12, 13, 14, 15, 16, 17, 18, 19, 20, 21, 22, 23, 24, 25, 26, 27, 28, 29, 30, 31, 32, 33, 34, 35, 36, 37, 38, 39] rfl (by decide +kernel) rfl (ci := 1) rfl (q0 := 7) rfl gC_Frm_93 ⟨rfl, by decide, by decide, by decide +kernel⟩ ⟨Nat.le_of_ble_eq_true rfl, Nat.le_of_ble_eq_true rfl⟩ ⟨show _ + da5 ≤ DC by omega, show _ + ea6 ≤ DS by omega⟩ (As := [.int r1]) (n := 1) rfl hl.1 rfl (Nat.le_of_ble_eq_true rfl) dC_Frm_evaluate_140 (fun Wc' ov H locs hPo hWn => ?_)
  obtain ⟨b9, rfl, rfl⟩ := hPo
  have hW := hWn (w_Frm dA o (uN b 100 (b9 0)) i (rs u2 3 u4) sN sT sP sI) rfl rfl
  generalize uN b 100 (b9 0) = b at hW
  obtain ⟨sF10, esF10, hM⟩ := bnd_some hM
  rw [← esF10] at hW
  refine lv_goto (pc := 143) (tgt := 254) hx hb dC_Frm_evaluate_143 (by decide) ?_
  exact bC_Frm_evaluate_254 N rec21 C hrec21 _ _ _ _ _ _ _ _ _ _ _ _ hM (by omega) (by omega) _ _ _ hW _ (lv_sub hl [0, 1, 2, 3] rfl)
def C_Frm_evaluate_21 (N : Nat)  : Nat → Int32 → Int32 → Int32 → CS → CS → CS → CS → CS → Option ((Int32 × CS) × (Nat × Nat))
  | 0 => fun _ _ _ _ _ _ _ _ => none
  | n + 1 => fun x2 x3 x4 sF sN sT sP sI => (if x2 ≤ x4 then cr (C_Row_get  (0 : Int32) (rg sF 3)) (fun r1 => bnd (cF sF 1 r1) (fun sF2 => (if (sF2.1 4) = 0 then (if (sF2.1 5) = 0 then C_Frm_evaluate_297 N  (0 : Int32) sF2 sN sT sP sI else C_Frm_evaluate_297 N  (9 : Int32) sF2 sN sT sP sI) else C_Frm_evaluate_297 N  (8 : Int32) sF2 sN sT sP sI))) else cr (C_Row_get  x4 (rg sF 0)) (fun r3 => cr (C_Row_get  x4 (rg sF 1)) (fun r4 => (if r3 = (3 : Int32) then ct (C_Row_add  r4 (rg sF 3)) (fun r40 u41 => bnd (rs sF 3 u41) (fun sF47 => C_Frm_evaluate_254 N (C_Frm_evaluate_21 N  n) x2 x3 x4 sF47 sN sT sP sI)) else (if r3 = (2 : Int32) then cl (C_Frm_valueOf  r4 sF sN sT sP sI) (fun r30 u31 => ct (C_Row_add  r30 (rg u31 3)) (fun r32 u33 => bnd (rs u31 3 u33) (fun sF39 => C_Frm_evaluate_254 N (C_Frm_evaluate_21 N  n) x2 x3 x4 sF39 sN sT sP sI))) else (if r3 = (7 : Int32) then cr (C_Prg_addressOf  x3 sP sI) (fun r21 => ct (C_Row_add  r21 (rg sF 3)) (fun r22 u23 => bnd (rs sF 3 u23) (fun sF29 => C_Frm_evaluate_254 N (C_Frm_evaluate_21 N  n) x2 x3 x4 sF29 sN sT sP sI))) else (if r3 = (8 : Int32) then C_Frm_evaluate_128 N (C_Frm_evaluate_21 N  n) x2 x3 x4 r3 r4 sF sN sT sP sI else (if r3 = (9 : Int32) then C_Frm_evaluate_128 N (C_Frm_evaluate_21 N  n) x2 x3 x4 r3 r4 sF sN sT sP sI else cr (C_Frm_level  r3) (fun r5 => (if r5 = (7 : Int32) then cr (C_Row_get  ((sF.1 103) - (1 : Int32)) (rg sF 3)) (fun r16 => cr (C_Frm_changed  r3 r16) (fun r17 => cl (C_Row_set  ((sF.1 103) - (1 : Int32)) r17 (rg sF 3)) (fun r18 u19 => bnd (rs sF 3 u19) (fun sF20 => C_Frm_evaluate_254 N (C_Frm_evaluate_21 N  n) x2 x3 x4 sF20 sN sT sP sI)))) else cr (C_Row_get  (((sF.1 103) - (1 : Int32)) - (1 : Int32)) (rg sF 3)) (fun r6 => cr (C_Row_get  ((sF.1 103) - (1 : Int32)) (rg sF 3)) (fun r7 => cl (C_Frm_joined  r3 r6 r7 sF sN sT sP sI) (fun r8 u9 => cl (C_Row_cut  ((sF.1 103) - (1 : Int32)) (rg u9 3)) (fun r10 u11 => bnd (rs u9 3 u11) (fun sF12 => cl (C_Row_set  (((sF.1 103) - (1 : Int32)) - (1 : Int32)) r8 (rg sF12 3)) (fun r13 u14 => bnd (rs sF12 3 u14) (fun sF15 => C_Frm_evaluate_254 N (C_Frm_evaluate_21 N  n) x2 x3 x4 sF15 sN sT sP sI)))))))))))))))))
set_option maxHeartbeats 4000000 in
set_option maxRecDepth 100000 in
theorem bC_Frm_evaluate_21 (N : Nat)  {r : Int32} {u : CS} {DC DS : Nat} (C : CxC R_Frm p s m args meth c cC_Frm_evaluate 9 (some .int) D dA (zz o) A) : ∀ (n : Nat) (x2 : Int32) (x3 : Int32) (x4 : Int32) (sF : CS) (sN : CS) (sT : CS) (sP : CS) (sI : CS) (dc ds kc ks : Nat) , C_Frm_evaluate_21 N  n x2 x3 x4 sF sN sT sP sI = some ((r, u), (dc, ds)) → ∀ (hdc : kc + dc ≤ DC) (hds : ks + ds ≤ DS) (b : Nat → Nat) (H : Heap) (locs : List Loc) (hW : WdC D A s (w_Frm dA o b i sF sN sT sP sI) H locs) (ls : Array Slot) (hl : lv_has ls 9 [(0, .ref (o 96)), (2, .int x2), (3, .int x3), (4, .int x4)]), W p l e (rmC 5 165 DC DS) s m args below meth c H locs kc ks (MQ below (QC D A (fun Ws' ov => ∃ b' : Nat → Nat, Ws' = (w_Frm dA o b' i u sN sT sP sI) ∧ ov = (some (.int r)))) args s DC DS A) (F0 m 21 ls []) := by
  have hx := C.1.1
  have hb := C.1.2.1
  have hown := C.1.2.2.2.2.1
  have hT := C.1.2.2.2.2.2.1
  intro n
  induction n with
  | zero => intro x2 x3 x4 sF sN sT sP sI dc ds kc ks hM; cases hM
  | succ n hrec21 =>
    intro x2 x3 x4 sF sN sT sP sI dc ds kc ks hM hdc hds b H locs hW ls hl
    rw [C_Frm_evaluate_21] at hM
    refine lv_iload (pc := 21) hx hb dC_Frm_evaluate_21 (lv_at hl 3 rfl) ?_
    refine lv_iload_n (pc := 23) hx hb dC_Frm_evaluate_23 rfl (lv_at hl 1 rfl) ?_
    refine lv_icmp_ge (pc := 24) (tgt := 260) hx hb dC_Frm_evaluate_24 (by decide) (fun hc => ?_) (fun hc => ?_)
    · replace hM := it_t hc hM
      refine lv_aload_n (pc := 260) hx hb dC_Frm_evaluate_260 rfl (lv_at hl 0 rfl) ?_
      refine lv_aload_n (pc := 261) hx hb dC_Frm_evaluate_261 rfl (lv_at hl 0 rfl) ?_
      refine x_getC (pc := 262) C hW 0 rfl (ci := 7) rfl i_Frm 8 (by decide) qc_473 rfl rfl dC_Frm_evaluate_262 ?_
      refine lv_iconst (pc := 265) (v := 0) hx hb dC_Frm_evaluate_265 (by decide) ?_
      obtain ⟨r1, hr1, hM⟩ := cr_some hM
      refine x_callQ (pc := 266) (n' := 40) (ov := some (.int r1)) C hW (kC_Row_get l D dA (zz o) (fun _ => o 100) (fun _ => b 100)  (0 : Int32) (rg sF 3) hr1) [7, 8, 0, 1, 2, 3, 4, 5, 6, 9, 10, 11, 12, 13, 14, 15, 16, 17, 18, 19, 20, 21, 22, 23, 24, 25, 26, 27, 28, 29, 30, 31, 32, 33, 34, 35, 36, 37, 38, 39] rfl (by decide +kernel) rfl (ci := 1) rfl (q0 := 7) rfl gC_Frm_110 ⟨rfl, by decide, by decide, by decide +kernel⟩ ⟨Nat.le_of_ble_eq_true rfl, Nat.le_of_ble_eq_true rfl⟩ ⟨show _ ≤ DC by omega, show _ ≤ DS by omega⟩ (As := [.int (0 : Int32)]) (n := 1) rfl hl.1 rfl (Nat.le_of_ble_eq_true rfl) dC_Frm_evaluate_266 ?_
      refine x_putC (pc := 269) (ty := .int) (Ws' := (w_Frm dA o b i (cF sF 1 r1) sN sT sP sI)) C hW 0 rfl (ci := 7) rfl i_Frm tok_Frm n_Frm 1 (by decide) qc_464 rfl rfl (by decide +kernel) rfl rfl (Nat.le_of_ble_eq_true rfl) rfl dC_Frm_evaluate_269 (fun H locs hW => ?_)
      obtain ⟨sF2, esF2, hM⟩ := bnd_some hM
      rw [← esF2] at hW
      refine lv_aload_n (pc := 272) hx hb dC_Frm_evaluate_272 rfl (lv_at hl 0 rfl) ?_
      refine x_getC (pc := 273) C hW 0 rfl (ci := 7) rfl i_Frm 11 (by decide) qc_476 rfl rfl dC_Frm_evaluate_273 ?_
      refine lv_if_eq (pc := 276) (tgt := 284) hx hb dC_Frm_evaluate_276 (by decide) (fun hc => ?_) (fun hc => ?_)
      · replace hM := it_t hc hM
        refine lv_aload_n (pc := 284) hx hb dC_Frm_evaluate_284 rfl (lv_at hl 0 rfl) ?_
        refine x_getC (pc := 285) C hW 0 rfl (ci := 7) rfl i_Frm 12 (by decide) qc_477 rfl rfl dC_Frm_evaluate_285 ?_
        refine lv_if_eq (pc := 288) (tgt := 296) hx hb dC_Frm_evaluate_288 (by decide) (fun hc => ?_) (fun hc => ?_)
        · replace hM := it_t hc hM
          refine lv_iconst (pc := 296) (v := 0) hx hb dC_Frm_evaluate_296 (by decide) ?_
          exact bC_Frm_evaluate_297 N  C  _ _ _ _ _ _ _ _ _ _ hM (by omega) (by omega) _ _ _ hW _ (lv_sub hl [] rfl)
        · replace hM := it_f hc hM
          refine lv_bipush (pc := 291) (v := 9) hx hb dC_Frm_evaluate_291 (by decide) ?_
          refine lv_goto (pc := 293) (tgt := 297) hx hb dC_Frm_evaluate_293 (by decide) ?_
          exact bC_Frm_evaluate_297 N  C  _ _ _ _ _ _ _ _ _ _ hM (by omega) (by omega) _ _ _ hW _ (lv_sub hl [] rfl)
      · replace hM := it_f hc hM
        refine lv_bipush (pc := 279) (v := 8) hx hb dC_Frm_evaluate_279 (by decide) ?_
        refine lv_goto (pc := 281) (tgt := 297) hx hb dC_Frm_evaluate_281 (by decide) ?_
        exact bC_Frm_evaluate_297 N  C  _ _ _ _ _ _ _ _ _ _ hM (by omega) (by omega) _ _ _ hW _ (lv_sub hl [] rfl)
    · replace hM := it_f hc hM
      refine lv_aload_n (pc := 27) hx hb dC_Frm_evaluate_27 rfl (lv_at hl 0 rfl) ?_
      refine x_getC (pc := 28) C hW 0 rfl (ci := 7) rfl i_Frm 5 (by decide) qc_470 rfl rfl dC_Frm_evaluate_28 ?_
      refine lv_iload (pc := 31) hx hb dC_Frm_evaluate_31 (lv_at hl 3 rfl) ?_
      obtain ⟨r3, hr3, hM⟩ := cr_some hM
      refine x_callQ (pc := 33) (n' := 40) (ov := some (.int r3)) C hW (kC_Row_get l D dA (zz o) (fun _ => o 97) (fun _ => b 97)  x4 (rg sF 0) hr3) [1, 2, 0, 3, 4, 5, 6, 7, 8, 9, 10, 11, 12, 13, 14, 15, 16, 17, 18, 19, 20, 21, 22, 23, 24, 25, 26, 27, 28, 29, 30, 31, 32, 33, 34, 35, 36, 37, 38, 39] rfl (by decide +kernel) rfl (ci := 1) rfl (q0 := 1) rfl gC_Frm_110 ⟨rfl, by decide, by decide, by decide +kernel⟩ ⟨Nat.le_of_ble_eq_true rfl, Nat.le_of_ble_eq_true rfl⟩ ⟨show _ ≤ DC by omega, show _ ≤ DS by omega⟩ (As := [.int x4]) (n := 1) rfl hl.1 rfl (Nat.le_of_ble_eq_true rfl) dC_Frm_evaluate_33 ?_
      refine lv_istore (pc := 36) (lv' := [(5, .int r3), (0, .ref (o 96)), (2, .int x2), (3, .int x3), (4, .int x4)]) hx hb dC_Frm_evaluate_36 hl (by decide) rfl (fun ls hl => ?_)
      refine lv_aload_n (pc := 38) hx hb dC_Frm_evaluate_38 rfl (lv_at hl 1 rfl) ?_
      refine x_getC (pc := 39) C hW 0 rfl (ci := 7) rfl i_Frm 6 (by decide) qc_471 rfl rfl dC_Frm_evaluate_39 ?_
      refine lv_iload (pc := 42) hx hb dC_Frm_evaluate_42 (lv_at hl 4 rfl) ?_
      obtain ⟨r4, hr4, hM⟩ := cr_some hM
      refine x_callQ (pc := 44) (n' := 40) (ov := some (.int r4)) C hW (kC_Row_get l D dA (zz o) (fun _ => o 98) (fun _ => b 98)  x4 (rg sF 1) hr4) [3, 4, 0, 1, 2, 5, 6, 7, 8, 9, 10, 11, 12, 13, 14, 15, 16, 17, 18, 19, 20, 21, 22, 23, 24, 25, 26, 27, 28, 29, 30, 31, 32, 33, 34, 35, 36, 37, 38, 39] rfl (by decide +kernel) rfl (ci := 1) rfl (q0 := 3) rfl gC_Frm_110 ⟨rfl, by decide, by decide, by decide +kernel⟩ ⟨Nat.le_of_ble_eq_true rfl, Nat.le_of_ble_eq_true rfl⟩ ⟨show _ ≤ DC by omega, show _ ≤ DS by omega⟩ (As := [.int x4]) (n := 1) rfl hl.1 rfl (Nat.le_of_ble_eq_true rfl) dC_Frm_evaluate_44 ?_
      refine lv_istore (pc := 47) (lv' := [(6, .int r4), (5, .int r3), (0, .ref (o 96)), (2, .int x2), (3, .int x3), (4, .int x4)]) hx hb dC_Frm_evaluate_47 hl (by decide) rfl (fun ls hl => ?_)
      refine lv_iload (pc := 49) hx hb dC_Frm_evaluate_49 (lv_at hl 1 rfl) ?_
      refine lv_iconst (pc := 51) (v := 3) hx hb dC_Frm_evaluate_51 (by decide) ?_
      refine lv_icmp_ne (pc := 52) (tgt := 67) hx hb dC_Frm_evaluate_52 (by decide) (fun hc => ?_) (fun hc => ?_)
      · replace hM := it_f hc hM
        refine lv_iload (pc := 67) hx hb dC_Frm_evaluate_67 (lv_at hl 1 rfl) ?_
        refine lv_iconst (pc := 69) (v := 2) hx hb dC_Frm_evaluate_69 (by decide) ?_
        refine lv_icmp_ne (pc := 70) (tgt := 89) hx hb dC_Frm_evaluate_70 (by decide) (fun hc => ?_) (fun hc => ?_)
        · replace hM := it_f hc hM
          refine lv_iload (pc := 89) hx hb dC_Frm_evaluate_89 (lv_at hl 1 rfl) ?_
          refine lv_bipush (pc := 91) (v := 7) hx hb dC_Frm_evaluate_91 (by decide) ?_
          refine lv_icmp_ne (pc := 93) (tgt := 114) hx hb dC_Frm_evaluate_93 (by decide) (fun hc => ?_) (fun hc => ?_)
          · replace hM := it_f hc hM
            refine lv_iload (pc := 114) hx hb dC_Frm_evaluate_114 (lv_at hl 1 rfl) ?_
            refine lv_bipush (pc := 116) (v := 8) hx hb dC_Frm_evaluate_116 (by decide) ?_
            refine lv_icmp_eq (pc := 118) (tgt := 128) hx hb dC_Frm_evaluate_118 (by decide) (fun hc => ?_) (fun hc => ?_)
            · replace hM := it_t hc hM
              exact bC_Frm_evaluate_128 N _ C hrec21 _ _ _ _ _ _ _ _ _ _ _ _ _ _ hM (by omega) (by omega) _ _ _ hW _ (lv_sub hl [2, 3, 4, 5, 1, 0] rfl)
            · replace hM := it_f hc hM
              refine lv_iload (pc := 121) hx hb dC_Frm_evaluate_121 (lv_at hl 1 rfl) ?_
              refine lv_bipush (pc := 123) (v := 9) hx hb dC_Frm_evaluate_123 (by decide) ?_
              refine lv_icmp_ne (pc := 125) (tgt := 146) hx hb dC_Frm_evaluate_125 (by decide) (fun hc => ?_) (fun hc => ?_)
              · replace hM := it_f hc hM
                refine lv_iload (pc := 146) hx hb dC_Frm_evaluate_146 (lv_at hl 1 rfl) ?_
                obtain ⟨r5, hr5, hM⟩ := cr_some hM
                refine x_callU (pc := 148) (ov := some (.int r5)) C.1 (kC_Frm_level l  r3 hr5) qc_1170 qc_1168 qc_1169 qc_20 ⟨by decide, by decide, by decide +kernel⟩ ⟨rfl, rfl⟩ ⟨Nat.le_of_ble_eq_true rfl, Nat.le_of_ble_eq_true rfl⟩ ⟨show _ ≤ DC by omega, show _ ≤ DS by omega⟩ (As := [.int r3]) (n := 1) rfl hl.1 rfl (Nat.le_of_ble_eq_true rfl) dC_Frm_evaluate_148 ?_
                refine lv_bipush (pc := 151) (v := 7) hx hb dC_Frm_evaluate_151 (by decide) ?_
                refine lv_icmp_ne (pc := 153) (tgt := 193) hx hb dC_Frm_evaluate_153 (by decide) (fun hc => ?_) (fun hc => ?_)
                · replace hM := it_f hc hM
                  refine lv_aload_n (pc := 193) hx hb dC_Frm_evaluate_193 rfl (lv_at hl 2 rfl) ?_
                  refine x_getC (pc := 194) C hW 0 rfl (ci := 7) rfl i_Frm 8 (by decide) qc_473 rfl rfl dC_Frm_evaluate_194 ?_
                  refine x_getC (pc := 197) C hW 7 rfl (ci := 1) rfl i_Row 0 (by decide) qc_56 rfl rfl dC_Frm_evaluate_197 ?_
                  refine lv_iconst (pc := 200) (v := 1) hx hb dC_Frm_evaluate_200 (by decide) ?_
                  refine lv_isub (pc := 201) hx hb dC_Frm_evaluate_201 ?_
                  refine lv_istore (pc := 202) (lv' := [(7, .int ((sF.1 103) - (1 : Int32))), (6, .int r4), (5, .int r3), (0, .ref (o 96)), (2, .int x2), (3, .int x3), (4, .int x4)]) hx hb dC_Frm_evaluate_202 hl (by decide) rfl (fun ls hl => ?_)
                  refine lv_aload_n (pc := 204) hx hb dC_Frm_evaluate_204 rfl (lv_at hl 3 rfl) ?_
                  refine lv_iload (pc := 205) hx hb dC_Frm_evaluate_205 (lv_at hl 2 rfl) ?_
                  refine lv_aload_n (pc := 207) hx hb dC_Frm_evaluate_207 rfl (lv_at hl 3 rfl) ?_
                  refine x_getC (pc := 208) C hW 0 rfl (ci := 7) rfl i_Frm 8 (by decide) qc_473 rfl rfl dC_Frm_evaluate_208 ?_
                  refine lv_iload (pc := 211) hx hb dC_Frm_evaluate_211 (lv_at hl 0 rfl) ?_
                  refine lv_iconst (pc := 213) (v := 1) hx hb dC_Frm_evaluate_213 (by decide) ?_
                  refine lv_isub (pc := 214) hx hb dC_Frm_evaluate_214 ?_
                  obtain ⟨r6, hr6, hM⟩ := cr_some hM
                  refine x_callQ (pc := 215) (n' := 40) (ov := some (.int r6)) C hW (kC_Row_get l D dA (zz o) (fun _ => o 100) (fun _ => b 100)  (((sF.1 103) - (1 : Int32)) - (1 : Int32)) (rg sF 3) hr6) [7, 8, 0, 1, 2, 3, 4, 5, 6, 9, 10, 11, 12, 13, 14, 15, 16, 17, 18, 19, 20, 21, 22, 23, 24, 25, 26, 27, 28, 29, 30, 31, 32, 33, 34, 35, 36, 37, 38, 39] rfl (by decide +kernel) rfl (ci := 1) rfl (q0 := 7) rfl gC_Frm_110 ⟨rfl, by decide, by decide, by decide +kernel⟩ ⟨Nat.le_of_ble_eq_true rfl, Nat.le_of_ble_eq_true rfl⟩ ⟨show _ ≤ DC by omega, show _ ≤ DS by omega⟩ (As := [.int (((sF.1 103) - (1 : Int32)) - (1 : Int32))]) (n := 1) rfl hl.1 rfl (Nat.le_of_ble_eq_true rfl) dC_Frm_evaluate_215 ?_
                  refine lv_aload_n (pc := 218) hx hb dC_Frm_evaluate_218 rfl (lv_at hl 3 rfl) ?_
                  refine x_getC (pc := 219) C hW 0 rfl (ci := 7) rfl i_Frm 8 (by decide) qc_473 rfl rfl dC_Frm_evaluate_219 ?_
                  refine lv_iload (pc := 222) hx hb dC_Frm_evaluate_222 (lv_at hl 0 rfl) ?_
                  obtain ⟨r7, hr7, hM⟩ := cr_some hM
                  refine x_callQ (pc := 224) (n' := 40) (ov := some (.int r7)) C hW (kC_Row_get l D dA (zz o) (fun _ => o 100) (fun _ => b 100)  ((sF.1 103) - (1 : Int32)) (rg sF 3) hr7) [7, 8, 0, 1, 2, 3, 4, 5, 6, 9, 10, 11, 12, 13, 14, 15, 16, 17, 18, 19, 20, 21, 22, 23, 24, 25, 26, 27, 28, 29, 30, 31, 32, 33, 34, 35, 36, 37, 38, 39] rfl (by decide +kernel) rfl (ci := 1) rfl (q0 := 7) rfl gC_Frm_110 ⟨rfl, by decide, by decide, by decide +kernel⟩ ⟨Nat.le_of_ble_eq_true rfl, Nat.le_of_ble_eq_true rfl⟩ ⟨show _ ≤ DC by omega, show _ ≤ DS by omega⟩ (As := [.int ((sF.1 103) - (1 : Int32))]) (n := 1) rfl hl.1 rfl (Nat.le_of_ble_eq_true rfl) dC_Frm_evaluate_224 ?_
                  obtain ⟨r8, u9, hr8, hM⟩ := cl_some hM
                  refine x_callC (pc := 227) (n' := 40) C hW (kC_Frm_joined l D dA o b i  r3 r6 r7 sF sN sT sP sI hr8) [0, 1, 2, 3, 4, 5, 6, 7, 8, 9, 10, 11, 12, 13, 14, 15, 16, 17, 18, 19, 20, 21, 22, 23, 24, 25, 26, 27, 28, 29, 30, 31, 32, 33, 34, 35, 36, 37, 38, 39] rfl (by decide +kernel) rfl (ci := 7) rfl (q0 := 0) rfl gC_Frm_141 ⟨rfl, by decide, by decide, by decide +kernel⟩ ⟨Nat.le_of_ble_eq_true rfl, Nat.le_of_ble_eq_true rfl⟩ ⟨show _ + 0 ≤ DC by omega, show _ + 0 ≤ DS by omega⟩ (As := [.int r3, .int r6, .int r7]) (n := 3) rfl hl.1 rfl (Nat.le_of_ble_eq_true rfl) dC_Frm_evaluate_227 (fun Wc' ov H locs hPo hWn => ?_)
                  obtain ⟨rfl, rfl⟩ := hPo
                  have hW := hWn (w_Frm dA o b i u9 sN sT sP sI) rfl rfl
                  refine lv_istore (pc := 230) (lv' := [(8, .int r8), (7, .int ((sF.1 103) - (1 : Int32))), (6, .int r4), (5, .int r3), (0, .ref (o 96)), (2, .int x2), (3, .int x3), (4, .int x4)]) hx hb dC_Frm_evaluate_230 hl (by decide) rfl (fun ls hl => ?_)
                  refine lv_aload_n (pc := 232) hx hb dC_Frm_evaluate_232 rfl (lv_at hl 4 rfl) ?_
                  refine x_getC (pc := 233) C hW 0 rfl (ci := 7) rfl i_Frm 8 (by decide) qc_473 rfl rfl dC_Frm_evaluate_233 ?_
                  refine lv_iload (pc := 236) hx hb dC_Frm_evaluate_236 (lv_at hl 1 rfl) ?_
                  obtain ⟨r10, u11, hr10, hM⟩ := cl_some hM
                  refine x_callC (pc := 238) (n' := 40) C hW (kC_Row_cut l D dA (zz o) (fun _ => o 100) (fun _ => b 100)  ((sF.1 103) - (1 : Int32)) (rg u9 3) hr10) [7, 8, 0, 1, 2, 3, 4, 5, 6, 9, 10, 11, 12, 13, 14, 15, 16, 17, 18, 19, 20, 21, 22, 23, 24, 25, 26, 27, 28, 29, 30, 31, 32, 33, 34, 35, 36, 37, 38, 39] rfl (by decide +kernel) rfl (ci := 1) rfl (q0 := 7) rfl gC_Frm_66 ⟨rfl, by decide, by decide, by decide +kernel⟩ ⟨Nat.le_of_ble_eq_true rfl, Nat.le_of_ble_eq_true rfl⟩ ⟨show _ + 0 ≤ DC by omega, show _ + 0 ≤ DS by omega⟩ (As := [.int ((sF.1 103) - (1 : Int32))]) (n := 1) rfl hl.1 rfl (Nat.le_of_ble_eq_true rfl) dC_Frm_evaluate_238 (fun Wc' ov H locs hPo hWn => ?_)
                  obtain ⟨rfl, rfl⟩ := hPo
                  have hW := hWn (w_Frm dA o b i (rs u9 3 u11) sN sT sP sI) rfl rfl
                  obtain ⟨sF12, esF12, hM⟩ := bnd_some hM
                  rw [← esF12] at hW
                  refine lv_aload_n (pc := 241) hx hb dC_Frm_evaluate_241 rfl (lv_at hl 4 rfl) ?_
                  refine x_getC (pc := 242) C hW 0 rfl (ci := 7) rfl i_Frm 8 (by decide) qc_473 rfl rfl dC_Frm_evaluate_242 ?_
                  refine lv_iload (pc := 245) hx hb dC_Frm_evaluate_245 (lv_at hl 1 rfl) ?_
                  refine lv_iconst (pc := 247) (v := 1) hx hb dC_Frm_evaluate_247 (by decide) ?_
                  refine lv_isub (pc := 248) hx hb dC_Frm_evaluate_248 ?_
                  refine lv_iload (pc := 249) hx hb dC_Frm_evaluate_249 (lv_at hl 0 rfl) ?_
                  obtain ⟨r13, u14, hr13, hM⟩ := cl_some hM
                  refine x_callC (pc := 251) (n' := 40) C hW (kC_Row_set l D dA (zz o) (fun _ => o 100) (fun _ => b 100)  (((sF.1 103) - (1 : Int32)) - (1 : Int32)) r8 (rg sF12 3) hr13) [7, 8, 0, 1, 2, 3, 4, 5, 6, 9, 10, 11, 12, 13, 14, 15, 16, 17, 18, 19, 20, 21, 22, 23, 24, 25, 26, 27, 28, 29, 30, 31, 32, 33, 34, 35, 36, 37, 38, 39] rfl (by decide +kernel) rfl (ci := 1) rfl (q0 := 7) rfl gC_Frm_137 ⟨rfl, by decide, by decide, by decide +kernel⟩ ⟨Nat.le_of_ble_eq_true rfl, Nat.le_of_ble_eq_true rfl⟩ ⟨show _ + 0 ≤ DC by omega, show _ + 0 ≤ DS by omega⟩ (As := [.int (((sF.1 103) - (1 : Int32)) - (1 : Int32)), .int r8]) (n := 2) rfl hl.1 rfl (Nat.le_of_ble_eq_true rfl) dC_Frm_evaluate_251 (fun Wc' ov H locs hPo hWn => ?_)
                  obtain ⟨rfl, rfl⟩ := hPo
                  have hW := hWn (w_Frm dA o b i (rs sF12 3 u14) sN sT sP sI) rfl rfl
                  obtain ⟨sF15, esF15, hM⟩ := bnd_some hM
                  rw [← esF15] at hW
                  exact bC_Frm_evaluate_254 N _ C hrec21 _ _ _ _ _ _ _ _ _ _ _ _ hM (by omega) (by omega) _ _ _ hW _ (lv_sub hl [4, 5, 6, 7] rfl)
                · replace hM := it_t hc hM
                  refine lv_aload_n (pc := 156) hx hb dC_Frm_evaluate_156 rfl (lv_at hl 2 rfl) ?_
                  refine x_getC (pc := 157) C hW 0 rfl (ci := 7) rfl i_Frm 8 (by decide) qc_473 rfl rfl dC_Frm_evaluate_157 ?_
                  refine x_getC (pc := 160) C hW 7 rfl (ci := 1) rfl i_Row 0 (by decide) qc_56 rfl rfl dC_Frm_evaluate_160 ?_
                  refine lv_iconst (pc := 163) (v := 1) hx hb dC_Frm_evaluate_163 (by decide) ?_
                  refine lv_isub (pc := 164) hx hb dC_Frm_evaluate_164 ?_
                  refine lv_istore (pc := 165) (lv' := [(7, .int ((sF.1 103) - (1 : Int32))), (6, .int r4), (5, .int r3), (0, .ref (o 96)), (2, .int x2), (3, .int x3), (4, .int x4)]) hx hb dC_Frm_evaluate_165 hl (by decide) rfl (fun ls hl => ?_)
                  refine lv_aload_n (pc := 167) hx hb dC_Frm_evaluate_167 rfl (lv_at hl 3 rfl) ?_
                  refine x_getC (pc := 168) C hW 0 rfl (ci := 7) rfl i_Frm 8 (by decide) qc_473 rfl rfl dC_Frm_evaluate_168 ?_
                  refine lv_iload (pc := 171) hx hb dC_Frm_evaluate_171 (lv_at hl 0 rfl) ?_
                  refine lv_iload (pc := 173) hx hb dC_Frm_evaluate_173 (lv_at hl 2 rfl) ?_
                  refine lv_aload_n (pc := 175) hx hb dC_Frm_evaluate_175 rfl (lv_at hl 3 rfl) ?_
                  refine x_getC (pc := 176) C hW 0 rfl (ci := 7) rfl i_Frm 8 (by decide) qc_473 rfl rfl dC_Frm_evaluate_176 ?_
                  refine lv_iload (pc := 179) hx hb dC_Frm_evaluate_179 (lv_at hl 0 rfl) ?_
                  obtain ⟨r16, hr16, hM⟩ := cr_some hM
                  refine x_callQ (pc := 181) (n' := 40) (ov := some (.int r16)) C hW (kC_Row_get l D dA (zz o) (fun _ => o 100) (fun _ => b 100)  ((sF.1 103) - (1 : Int32)) (rg sF 3) hr16) [7, 8, 0, 1, 2, 3, 4, 5, 6, 9, 10, 11, 12, 13, 14, 15, 16, 17, 18, 19, 20, 21, 22, 23, 24, 25, 26, 27, 28, 29, 30, 31, 32, 33, 34, 35, 36, 37, 38, 39] rfl (by decide +kernel) rfl (ci := 1) rfl (q0 := 7) rfl gC_Frm_110 ⟨rfl, by decide, by decide, by decide +kernel⟩ ⟨Nat.le_of_ble_eq_true rfl, Nat.le_of_ble_eq_true rfl⟩ ⟨show _ ≤ DC by omega, show _ ≤ DS by omega⟩ (As := [.int ((sF.1 103) - (1 : Int32))]) (n := 1) rfl hl.1 rfl (Nat.le_of_ble_eq_true rfl) dC_Frm_evaluate_181 ?_
                  obtain ⟨r17, hr17, hM⟩ := cr_some hM
                  refine x_callU (pc := 184) (ov := some (.int r17)) C.1 (kC_Frm_changed l  r3 r16 hr17) qc_1194 qc_1192 qc_1193 qc_20 ⟨by decide, by decide, by decide +kernel⟩ ⟨rfl, rfl⟩ ⟨Nat.le_of_ble_eq_true rfl, Nat.le_of_ble_eq_true rfl⟩ ⟨show _ ≤ DC by omega, show _ ≤ DS by omega⟩ (As := [.int r3, .int r16]) (n := 2) rfl hl.1 rfl (Nat.le_of_ble_eq_true rfl) dC_Frm_evaluate_184 ?_
                  obtain ⟨r18, u19, hr18, hM⟩ := cl_some hM
                  refine x_callC (pc := 187) (n' := 40) C hW (kC_Row_set l D dA (zz o) (fun _ => o 100) (fun _ => b 100)  ((sF.1 103) - (1 : Int32)) r17 (rg sF 3) hr18) [7, 8, 0, 1, 2, 3, 4, 5, 6, 9, 10, 11, 12, 13, 14, 15, 16, 17, 18, 19, 20, 21, 22, 23, 24, 25, 26, 27, 28, 29, 30, 31, 32, 33, 34, 35, 36, 37, 38, 39] rfl (by decide +kernel) rfl (ci := 1) rfl (q0 := 7) rfl gC_Frm_137 ⟨rfl, by decide, by decide, by decide +kernel⟩ ⟨Nat.le_of_ble_eq_true rfl, Nat.le_of_ble_eq_true rfl⟩ ⟨show _ + 0 ≤ DC by omega, show _ + 0 ≤ DS by omega⟩ (As := [.int ((sF.1 103) - (1 : Int32)), .int r17]) (n := 2) rfl hl.1 rfl (Nat.le_of_ble_eq_true rfl) dC_Frm_evaluate_187 (fun Wc' ov H locs hPo hWn => ?_)
                  obtain ⟨rfl, rfl⟩ := hPo
                  have hW := hWn (w_Frm dA o b i (rs sF 3 u19) sN sT sP sI) rfl rfl
                  obtain ⟨sF20, esF20, hM⟩ := bnd_some hM
                  rw [← esF20] at hW
                  refine lv_goto (pc := 190) (tgt := 254) hx hb dC_Frm_evaluate_190 (by decide) ?_
                  exact bC_Frm_evaluate_254 N _ C hrec21 _ _ _ _ _ _ _ _ _ _ _ _ hM (by omega) (by omega) _ _ _ hW _ (lv_sub hl [3, 4, 5, 6] rfl)
              · replace hM := it_t hc hM
                exact bC_Frm_evaluate_128 N _ C hrec21 _ _ _ _ _ _ _ _ _ _ _ _ _ _ hM (by omega) (by omega) _ _ _ hW _ (lv_sub hl [2, 3, 4, 5, 1, 0] rfl)
          · replace hM := it_t hc hM
            refine lv_aload_n (pc := 96) hx hb dC_Frm_evaluate_96 rfl (lv_at hl 2 rfl) ?_
            refine x_getC (pc := 97) C hW 0 rfl (ci := 7) rfl i_Frm 8 (by decide) qc_473 rfl rfl dC_Frm_evaluate_97 ?_
            refine lv_aload_n (pc := 100) hx hb dC_Frm_evaluate_100 rfl (lv_at hl 2 rfl) ?_
            refine x_getC (pc := 101) C hW 0 rfl (ci := 7) rfl i_Frm 4 (by decide) qc_469 rfl rfl dC_Frm_evaluate_101 ?_
            refine lv_iload_n (pc := 104) hx hb dC_Frm_evaluate_104 rfl (lv_at hl 4 rfl) ?_
            obtain ⟨r21, hr21, hM⟩ := cr_some hM
            refine x_callQ (pc := 105) (n' := 40) (ov := some (.int r21)) C hW (kC_Prg_addressOf l D dA o b i  x3 sP sI hr21) [33, 34, 35, 36, 37, 38, 39, 0, 1, 2, 3, 4, 5, 6, 7, 8, 9, 10, 11, 12, 13, 14, 15, 16, 17, 18, 19, 20, 21, 22, 23, 24, 25, 26, 27, 28, 29, 30, 31, 32] rfl (by decide +kernel) rfl (ci := 5) rfl (q0 := 33) rfl gC_Frm_127 ⟨rfl, by decide, by decide, by decide +kernel⟩ ⟨Nat.le_of_ble_eq_true rfl, Nat.le_of_ble_eq_true rfl⟩ ⟨show _ ≤ DC by omega, show _ ≤ DS by omega⟩ (As := [.int x3]) (n := 1) rfl hl.1 rfl (Nat.le_of_ble_eq_true rfl) dC_Frm_evaluate_105 ?_
            obtain ⟨r22, u23, da24, ea25, db26, eb27, hr22, hM, hqda24, hpda24⟩ := ct_some hM
            refine x_callC (pc := 108) (n' := 40) C hW (kC_Row_add l D dA (zz o) (fun _ => o 100) (fun _ => b 100)  r21 (rg sF 3) hr22) [7, 8, 0, 1, 2, 3, 4, 5, 6, 9, 10, 11, 12, 13, 14, 15, 16, 17, 18, 19, 20, 21, 22, 23, 24, 25, 26, 27, 28, 29, 30, 31, 32, 33, 34, 35, 36, 37, 38, 39] rfl (by decide +kernel) rfl (ci := 1) rfl (q0 := 7) rfl gC_Frm_93 ⟨rfl, by decide, by decide, by decide +kernel⟩ ⟨Nat.le_of_ble_eq_true rfl, Nat.le_of_ble_eq_true rfl⟩ ⟨show _ + da24 ≤ DC by omega, show _ + ea25 ≤ DS by omega⟩ (As := [.int r21]) (n := 1) rfl hl.1 rfl (Nat.le_of_ble_eq_true rfl) dC_Frm_evaluate_108 (fun Wc' ov H locs hPo hWn => ?_)
            obtain ⟨b28, rfl, rfl⟩ := hPo
            have hW := hWn (w_Frm dA o (uN b 100 (b28 0)) i (rs sF 3 u23) sN sT sP sI) rfl rfl
            generalize uN b 100 (b28 0) = b at hW
            obtain ⟨sF29, esF29, hM⟩ := bnd_some hM
            rw [← esF29] at hW
            refine lv_goto (pc := 111) (tgt := 254) hx hb dC_Frm_evaluate_111 (by decide) ?_
            exact bC_Frm_evaluate_254 N _ C hrec21 _ _ _ _ _ _ _ _ _ _ _ _ hM (by omega) (by omega) _ _ _ hW _ (lv_sub hl [2, 3, 4, 5] rfl)
        · replace hM := it_t hc hM
          refine lv_aload_n (pc := 73) hx hb dC_Frm_evaluate_73 rfl (lv_at hl 2 rfl) ?_
          refine x_getC (pc := 74) C hW 0 rfl (ci := 7) rfl i_Frm 8 (by decide) qc_473 rfl rfl dC_Frm_evaluate_74 ?_
          refine lv_aload_n (pc := 77) hx hb dC_Frm_evaluate_77 rfl (lv_at hl 2 rfl) ?_
          refine lv_iload (pc := 78) hx hb dC_Frm_evaluate_78 (lv_at hl 0 rfl) ?_
          obtain ⟨r30, u31, hr30, hM⟩ := cl_some hM
          refine x_callC (pc := 80) (n' := 40) C hW (kC_Frm_valueOf l D dA o b i  r4 sF sN sT sP sI hr30) [0, 1, 2, 3, 4, 5, 6, 7, 8, 9, 10, 11, 12, 13, 14, 15, 16, 17, 18, 19, 20, 21, 22, 23, 24, 25, 26, 27, 28, 29, 30, 31, 32, 33, 34, 35, 36, 37, 38, 39] rfl (by decide +kernel) rfl (ci := 7) rfl (q0 := 0) rfl gC_Frm_124 ⟨rfl, by decide, by decide, by decide +kernel⟩ ⟨Nat.le_of_ble_eq_true rfl, Nat.le_of_ble_eq_true rfl⟩ ⟨show _ + 0 ≤ DC by omega, show _ + 0 ≤ DS by omega⟩ (As := [.int r4]) (n := 1) rfl hl.1 rfl (Nat.le_of_ble_eq_true rfl) dC_Frm_evaluate_80 (fun Wc' ov H locs hPo hWn => ?_)
          obtain ⟨rfl, rfl⟩ := hPo
          have hW := hWn (w_Frm dA o b i u31 sN sT sP sI) rfl rfl
          obtain ⟨r32, u33, da34, ea35, db36, eb37, hr32, hM, hqda34, hpda34⟩ := ct_some hM
          refine x_callC (pc := 83) (n' := 40) C hW (kC_Row_add l D dA (zz o) (fun _ => o 100) (fun _ => b 100)  r30 (rg u31 3) hr32) [7, 8, 0, 1, 2, 3, 4, 5, 6, 9, 10, 11, 12, 13, 14, 15, 16, 17, 18, 19, 20, 21, 22, 23, 24, 25, 26, 27, 28, 29, 30, 31, 32, 33, 34, 35, 36, 37, 38, 39] rfl (by decide +kernel) rfl (ci := 1) rfl (q0 := 7) rfl gC_Frm_93 ⟨rfl, by decide, by decide, by decide +kernel⟩ ⟨Nat.le_of_ble_eq_true rfl, Nat.le_of_ble_eq_true rfl⟩ ⟨show _ + da34 ≤ DC by omega, show _ + ea35 ≤ DS by omega⟩ (As := [.int r30]) (n := 1) rfl hl.1 rfl (Nat.le_of_ble_eq_true rfl) dC_Frm_evaluate_83 (fun Wc' ov H locs hPo hWn => ?_)
          obtain ⟨b38, rfl, rfl⟩ := hPo
          have hW := hWn (w_Frm dA o (uN b 100 (b38 0)) i (rs u31 3 u33) sN sT sP sI) rfl rfl
          generalize uN b 100 (b38 0) = b at hW
          obtain ⟨sF39, esF39, hM⟩ := bnd_some hM
          rw [← esF39] at hW
          refine lv_goto (pc := 86) (tgt := 254) hx hb dC_Frm_evaluate_86 (by decide) ?_
          exact bC_Frm_evaluate_254 N _ C hrec21 _ _ _ _ _ _ _ _ _ _ _ _ hM (by omega) (by omega) _ _ _ hW _ (lv_sub hl [2, 3, 4, 5] rfl)
      · replace hM := it_t hc hM
        refine lv_aload_n (pc := 55) hx hb dC_Frm_evaluate_55 rfl (lv_at hl 2 rfl) ?_
        refine x_getC (pc := 56) C hW 0 rfl (ci := 7) rfl i_Frm 8 (by decide) qc_473 rfl rfl dC_Frm_evaluate_56 ?_
        refine lv_iload (pc := 59) hx hb dC_Frm_evaluate_59 (lv_at hl 0 rfl) ?_
        obtain ⟨r40, u41, da42, ea43, db44, eb45, hr40, hM, hqda42, hpda42⟩ := ct_some hM
        refine x_callC (pc := 61) (n' := 40) C hW (kC_Row_add l D dA (zz o) (fun _ => o 100) (fun _ => b 100)  r4 (rg sF 3) hr40) [7, 8, 0, 1, 2, 3, 4, 5, 6, 9, 10, 11, 12, 13, 14, 15, 16, 17, 18, 19, 20, 21, 22, 23, 24, 25, 26, 27, 28, 29, 30, 31, 32, 33, 34, 35, 36, 37, 38, 39] rfl (by decide +kernel) rfl (ci := 1) rfl (q0 := 7) rfl gC_Frm_93 ⟨rfl, by decide, by decide, by decide +kernel⟩ ⟨Nat.le_of_ble_eq_true rfl, Nat.le_of_ble_eq_true rfl⟩ ⟨show _ + da42 ≤ DC by omega, show _ + ea43 ≤ DS by omega⟩ (As := [.int r4]) (n := 1) rfl hl.1 rfl (Nat.le_of_ble_eq_true rfl) dC_Frm_evaluate_61 (fun Wc' ov H locs hPo hWn => ?_)
        obtain ⟨b46, rfl, rfl⟩ := hPo
        have hW := hWn (w_Frm dA o (uN b 100 (b46 0)) i (rs sF 3 u41) sN sT sP sI) rfl rfl
        generalize uN b 100 (b46 0) = b at hW
        obtain ⟨sF47, esF47, hM⟩ := bnd_some hM
        rw [← esF47] at hW
        refine lv_goto (pc := 64) (tgt := 254) hx hb dC_Frm_evaluate_64 (by decide) ?_
        exact bC_Frm_evaluate_254 N _ C hrec21 _ _ _ _ _ _ _ _ _ _ _ _ hM (by omega) (by omega) _ _ _ hW _ (lv_sub hl [2, 3, 4, 5] rfl)
def C_Frm_evaluate (N : Nat) (x1 : Int32) (x2 : Int32) (x3 : Int32) (sF : CS) (sN : CS) (sT : CS) (sP : CS) (sI : CS) : Option ((Int32 × CS) × (Nat × Nat)) :=
  cl (C_Row_cut  (0 : Int32) (rg sF 3)) (fun r1 u2 => bnd (rs sF 3 u2) (fun sF3 => bnd (cF sF3 4 (0 : Int32)) (fun sF4 => bnd (cF sF4 5 (0 : Int32)) (fun sF5 => C_Frm_evaluate_21 N  N x2 x3 x1 sF5 sN sT sP sI))))
set_option maxHeartbeats 4000000 in
set_option maxRecDepth 100000 in
theorem bC_Frm_evaluate_0 (N : Nat)  {r : Int32} {u : CS} {DC DS : Nat} (C : CxC R_Frm p s m args meth c cC_Frm_evaluate 9 (some .int) D dA (zz o) A) (x1 : Int32) (x2 : Int32) (x3 : Int32) (sF : CS) (sN : CS) (sT : CS) (sP : CS) (sI : CS) (dc ds kc ks : Nat) (hM : C_Frm_evaluate N  x1 x2 x3 sF sN sT sP sI = some ((r, u), (dc, ds))) (hdc : kc + dc ≤ DC) (hds : ks + ds ≤ DS) (b : Nat → Nat) (H : Heap) (locs : List Loc) (hW : WdC D A s (w_Frm dA o b i sF sN sT sP sI) H locs) (ls : Array Slot) (hl : lv_has ls 9 [(0, .ref (o 96)), (1, .int x1), (2, .int x2), (3, .int x3)]) : W p l e (rmC 5 165 DC DS) s m args below meth c H locs kc ks (MQ below (QC D A (fun Ws' ov => ∃ b' : Nat → Nat, Ws' = (w_Frm dA o b' i u sN sT sP sI) ∧ ov = (some (.int r)))) args s DC DS A) (F0 m 0 ls []) := by
  have hx := C.1.1
  have hb := C.1.2.1
  have hown := C.1.2.2.2.2.1
  have hT := C.1.2.2.2.2.2.1
  unfold C_Frm_evaluate at hM
  refine lv_aload_n (pc := 0) hx hb dC_Frm_evaluate_0 rfl (lv_at hl 0 rfl) ?_
  refine x_getC (pc := 1) C hW 0 rfl (ci := 7) rfl i_Frm 8 (by decide) qc_473 rfl rfl dC_Frm_evaluate_1 ?_
  refine lv_iconst (pc := 4) (v := 0) hx hb dC_Frm_evaluate_4 (by decide) ?_
  obtain ⟨r1, u2, hr1, hM⟩ := cl_some hM
  refine x_callC (pc := 5) (n' := 40) C hW (kC_Row_cut l D dA (zz o) (fun _ => o 100) (fun _ => b 100)  (0 : Int32) (rg sF 3) hr1) [7, 8, 0, 1, 2, 3, 4, 5, 6, 9, 10, 11, 12, 13, 14, 15, 16, 17, 18, 19, 20, 21, 22, 23, 24, 25, 26, 27, 28, 29, 30, 31, 32, 33, 34, 35, 36, 37, 38, 39] rfl (by decide +kernel) rfl (ci := 1) rfl (q0 := 7) rfl gC_Frm_66 ⟨rfl, by decide, by decide, by decide +kernel⟩ ⟨Nat.le_of_ble_eq_true rfl, Nat.le_of_ble_eq_true rfl⟩ ⟨show _ + 0 ≤ DC by omega, show _ + 0 ≤ DS by omega⟩ (As := [.int (0 : Int32)]) (n := 1) rfl hl.1 rfl (Nat.le_of_ble_eq_true rfl) dC_Frm_evaluate_5 (fun Wc' ov H locs hPo hWn => ?_)
  obtain ⟨rfl, rfl⟩ := hPo
  have hW := hWn (w_Frm dA o b i (rs sF 3 u2) sN sT sP sI) rfl rfl
  obtain ⟨sF3, esF3, hM⟩ := bnd_some hM
  rw [← esF3] at hW
  refine lv_aload_n (pc := 8) hx hb dC_Frm_evaluate_8 rfl (lv_at hl 0 rfl) ?_
  refine lv_iconst (pc := 9) (v := 0) hx hb dC_Frm_evaluate_9 (by decide) ?_
  refine x_putC (pc := 10) (ty := .boolean) (Ws' := (w_Frm dA o b i (cF sF3 4 (0 : Int32)) sN sT sP sI)) C hW 0 rfl (ci := 7) rfl i_Frm tok_Frm n_Frm 11 (by decide) qc_476 rfl rfl (by decide +kernel) rfl rfl (Nat.le_of_ble_eq_true rfl) rfl dC_Frm_evaluate_10 (fun H locs hW => ?_)
  obtain ⟨sF4, esF4, hM⟩ := bnd_some hM
  rw [← esF4] at hW
  refine lv_aload_n (pc := 13) hx hb dC_Frm_evaluate_13 rfl (lv_at hl 0 rfl) ?_
  refine lv_iconst (pc := 14) (v := 0) hx hb dC_Frm_evaluate_14 (by decide) ?_
  refine x_putC (pc := 15) (ty := .boolean) (Ws' := (w_Frm dA o b i (cF sF4 5 (0 : Int32)) sN sT sP sI)) C hW 0 rfl (ci := 7) rfl i_Frm tok_Frm n_Frm 12 (by decide) qc_477 rfl rfl (by decide +kernel) rfl rfl (Nat.le_of_ble_eq_true rfl) rfl dC_Frm_evaluate_15 (fun H locs hW => ?_)
  obtain ⟨sF5, esF5, hM⟩ := bnd_some hM
  rw [← esF5] at hW
  refine lv_iload_n (pc := 18) hx hb dC_Frm_evaluate_18 rfl (lv_at hl 1 rfl) ?_
  refine lv_istore (pc := 19) (lv' := [(4, .int x1), (0, .ref (o 96)), (1, .int x1), (2, .int x2), (3, .int x3)]) hx hb dC_Frm_evaluate_19 hl (by decide) rfl (fun ls hl => ?_)
  exact bC_Frm_evaluate_21 N  C  N _ _ _ _ _ _ _ _ _ _ _ _ hM (by omega) (by omega) _ _ _ hW _ (lv_sub hl [1, 3, 4, 0] rfl)
theorem kC_Frm_evaluate (l : Launch) (D : va_G) (dA : Nat → ClassId) (o b i : Nat → Nat) (N : Nat) (x1 : Int32) (x2 : Int32) (x3 : Int32) (sF : CS) (sN : CS) (sT : CS) (sP : CS) (sI : CS) {r : Int32} {u : CS} {dc ds : Nat} (hM : C_Frm_evaluate N x1 x2 x3 sF sN sT sP sI = some ((r, u), (dc, ds))) : KC l D dA (zz o) yC_Frm_evaluate cC_Frm_evaluate 9 (some .int) 5 165 dc ds (w_Frm dA o b i sF sN sT sP sI) [.ref (o 96), .int x1, .int x2, .int x3] (fun Ws' ov => ∃ b' : Nat → Nat, Ws' = (w_Frm dA o b' i u sN sT sP sI) ∧ ov = (some (.int r))) := x_enterC (by decide +kernel) (Nat.le_of_ble_eq_true rfl) (fun p e s m args below meth c A C _ hW ls hl => bC_Frm_evaluate_0 N C x1 x2 x3 sF sN sT sP sI dc ds 0 0 hM (by omega) (by omega) b s.heap [] hW ls hl)
end
