theorem qsc_12 : Cond.selects "LineAssembler$Lexer" (⟨"LineAssembler$Lexer", "readToken", "()Z"⟩ : MethodName) ⟨"LineAssembler$Lexer", "readToken", "()Z"⟩ ∈ lw_gd := lw_gds (List.mem_of_getElem? (i := 12) (by decide +kernel)) (by decide +kernel)
theorem qsc_13 : Cond.selects "LineAssembler$Lexer" (⟨"LineAssembler$Lexer", "skipRemark", "()V"⟩ : MethodName) ⟨"LineAssembler$Lexer", "skipRemark", "()V"⟩ ∈ lw_gd := lw_gds (List.mem_of_getElem? (i := 13) (by decide +kernel)) (by decide +kernel)
theorem qsc_14 : Cond.selects "LineAssembler$Lexer" (⟨"LineAssembler$Lexer", "readNumber", "()Z"⟩ : MethodName) ⟨"LineAssembler$Lexer", "readNumber", "()Z"⟩ ∈ lw_gd := lw_gds (List.mem_of_getElem? (i := 14) (by decide +kernel)) (by decide +kernel)
theorem qsc_15 : Cond.selects "LineAssembler$Lexer" (⟨"LineAssembler$Lexer", "readDigits", "(II)Z"⟩ : MethodName) ⟨"LineAssembler$Lexer", "readDigits", "(II)Z"⟩ ∈ lw_gd := lw_gds (List.mem_of_getElem? (i := 15) (by decide +kernel)) (by decide +kernel)
theorem qsc_16 : Cond.selects "LineAssembler$Lexer" (⟨"LineAssembler$Lexer", "readNear", "(I)Z"⟩ : MethodName) ⟨"LineAssembler$Lexer", "readNear", "(I)Z"⟩ ∈ lw_gd := lw_gds (List.mem_of_getElem? (i := 16) (by decide +kernel)) (by decide +kernel)
theorem qsc_17 : Cond.selects "LineAssembler$Lexer" (⟨"LineAssembler$Lexer", "readName", "()Z"⟩ : MethodName) ⟨"LineAssembler$Lexer", "readName", "()Z"⟩ ∈ lw_gd := lw_gds (List.mem_of_getElem? (i := 17) (by decide +kernel)) (by decide +kernel)
theorem qsc_18 : Cond.selects "LineAssembler$Lexer" (⟨"LineAssembler$Lexer", "readQuoted", "()Z"⟩ : MethodName) ⟨"LineAssembler$Lexer", "readQuoted", "()Z"⟩ ∈ lw_gd := lw_gds (List.mem_of_getElem? (i := 18) (by decide +kernel)) (by decide +kernel)
theorem qsc_19 : Cond.selects "LineAssembler$Lexer" (⟨"LineAssembler$Lexer", "readCharacter", "(I)I"⟩ : MethodName) ⟨"LineAssembler$Lexer", "readCharacter", "(I)I"⟩ ∈ lw_gd := lw_gds (List.mem_of_getElem? (i := 19) (by decide +kernel)) (by decide +kernel)
theorem qsc_20 : Cond.selects "LineAssembler$Lexer" (⟨"LineAssembler$Lexer", "readString", "()Z"⟩ : MethodName) ⟨"LineAssembler$Lexer", "readString", "()Z"⟩ ∈ lw_gd := lw_gds (List.mem_of_getElem? (i := 20) (by decide +kernel)) (by decide +kernel)
theorem qsc_21 : Cond.selects "LineAssembler$Lexer" (⟨"LineAssembler$Lexer", "readSign", "(I)Z"⟩ : MethodName) ⟨"LineAssembler$Lexer", "readSign", "(I)Z"⟩ ∈ lw_gd := lw_gds (List.mem_of_getElem? (i := 21) (by decide +kernel)) (by decide +kernel)
theorem qc_13 : (Jvm.Cond.initialized "LineAssembler$Tokens") ∈ lw_gd := uc_0 (List.mem_of_getElem? (i := 13) (by decide +kernel)) (by decide +kernel)
theorem qc_55 : (Jvm.Cond.fieldLink "LineAssembler$Lexer" (41 : Nat) "LineAssembler$Row" "count" "I") ∈ lw_gd := uc_0 (List.mem_of_getElem? (i := 55) (by decide +kernel)) (by decide +kernel)
theorem qc_438 : (Jvm.Cond.fieldLink "LineAssembler$Lexer" (15 : Nat) "LineAssembler$Lexer" "text" "LLineAssembler$Row;") ∈ lw_gd := uc_1 (List.mem_of_getElem? (i := 198) (by decide +kernel)) (by decide +kernel)
theorem qc_439 : (Jvm.Cond.fieldLink "LineAssembler$Lexer" (19 : Nat) "LineAssembler$Lexer" "names" "LLineAssembler$Names;") ∈ lw_gd := uc_1 (List.mem_of_getElem? (i := 199) (by decide +kernel)) (by decide +kernel)
theorem qc_440 : (Jvm.Cond.fieldLink "LineAssembler$Lexer" (23 : Nat) "LineAssembler$Lexer" "tokens" "LLineAssembler$Tokens;") ∈ lw_gd := uc_1 (List.mem_of_getElem? (i := 200) (by decide +kernel)) (by decide +kernel)
theorem qc_441 : (Jvm.Cond.fieldLink "LineAssembler$Lexer" (27 : Nat) "LineAssembler$Lexer" "letters" "LLineAssembler$Row;") ∈ lw_gd := uc_1 (List.mem_of_getElem? (i := 201) (by decide +kernel)) (by decide +kernel)
theorem qc_442 : (Jvm.Cond.fieldLink "LineAssembler$Lexer" (9 : Nat) "LineAssembler$Lexer" "at" "I") ∈ lw_gd := uc_1 (List.mem_of_getElem? (i := 202) (by decide +kernel)) (by decide +kernel)
theorem qc_1004 : (Jvm.Cond.methodLink "LineAssembler$Lexer" (30 : Nat) ({ cls := "LineAssembler$Tokens", name := "empty", desc := "()V" } : Jvm.MethodName)) ∈ lw_gd := uc_4 (List.mem_of_getElem? (i := 44) (by decide +kernel)) (by decide +kernel)
theorem qc_1005 : (Jvm.Cond.instanceMethod ({ cls := "LineAssembler$Tokens", name := "empty", desc := "()V" } : Jvm.MethodName)) ∈ lw_gd := uc_4 (List.mem_of_getElem? (i := 45) (by decide +kernel)) (by decide +kernel)
theorem qc_1006 : (Jvm.Cond.selects "LineAssembler$Tokens" ({ cls := "LineAssembler$Tokens", name := "empty", desc := "()V" } : Jvm.MethodName) ({ cls := "LineAssembler$Tokens", name := "empty", desc := "()V" } : Jvm.MethodName)) ∈ lw_gd := uc_4 (List.mem_of_getElem? (i := 46) (by decide +kernel)) (by decide +kernel)
theorem qc_1007 : (Jvm.Cond.code ({ cls := "LineAssembler$Tokens", name := "empty", desc := "()V" } : Jvm.MethodName) prog_12_method_2_code (1 : Nat) (Option.none : Option Jvm.ClassFile.FieldType)) ∈ lw_gd := uc_4 (List.mem_of_getElem? (i := 47) (by decide +kernel)) (by decide +kernel)
theorem qc_1008 : (Jvm.Cond.methodLink "LineAssembler$Lexer" (35 : Nat) ({ cls := "LineAssembler$Row", name := "cut", desc := "(I)V" } : Jvm.MethodName)) ∈ lw_gd := uc_4 (List.mem_of_getElem? (i := 48) (by decide +kernel)) (by decide +kernel)
theorem qc_1009 : (Jvm.Cond.methodLink "LineAssembler$Lexer" (44 : Nat) ({ cls := "LineAssembler$Lexer", name := "readToken", desc := "()Z" } : Jvm.MethodName)) ∈ lw_gd := uc_4 (List.mem_of_getElem? (i := 49) (by decide +kernel)) (by decide +kernel)
theorem qc_1011 : (Jvm.Cond.instanceMethod ({ cls := "LineAssembler$Lexer", name := "readToken", desc := "()Z" } : Jvm.MethodName)) ∈ lw_gd := uc_4 (List.mem_of_getElem? (i := 51) (by decide +kernel)) (by decide +kernel)
theorem qc_1012 : (Jvm.Cond.code ({ cls := "LineAssembler$Lexer", name := "readToken", desc := "()Z" } : Jvm.MethodName) prog_6_method_3_code (2 : Nat) (Option.some Jvm.ClassFile.FieldType.boolean)) ∈ lw_gd := uc_4 (List.mem_of_getElem? (i := 52) (by decide +kernel)) (by decide +kernel)
theorem qc_1013 : (Jvm.Cond.methodLink "LineAssembler$Lexer" (52 : Nat) ({ cls := "LineAssembler$Row", name := "get", desc := "(I)I" } : Jvm.MethodName)) ∈ lw_gd := uc_4 (List.mem_of_getElem? (i := 53) (by decide +kernel)) (by decide +kernel)
theorem qc_1014 : (Jvm.Cond.methodLink "LineAssembler$Lexer" (56 : Nat) ({ cls := "LineAssembler$Lexer", name := "skipRemark", desc := "()V" } : Jvm.MethodName)) ∈ lw_gd := uc_4 (List.mem_of_getElem? (i := 54) (by decide +kernel)) (by decide +kernel)
theorem qc_1016 : (Jvm.Cond.instanceMethod ({ cls := "LineAssembler$Lexer", name := "skipRemark", desc := "()V" } : Jvm.MethodName)) ∈ lw_gd := uc_4 (List.mem_of_getElem? (i := 56) (by decide +kernel)) (by decide +kernel)
theorem qc_1017 : (Jvm.Cond.code ({ cls := "LineAssembler$Lexer", name := "skipRemark", desc := "()V" } : Jvm.MethodName) prog_6_method_4_code (3 : Nat) (Option.none : Option Jvm.ClassFile.FieldType)) ∈ lw_gd := uc_4 (List.mem_of_getElem? (i := 57) (by decide +kernel)) (by decide +kernel)
theorem qc_1021 : (Jvm.Cond.methodLink "LineAssembler$Lexer" (63 : Nat) ({ cls := "LineAssembler$Lexer", name := "readNumber", desc := "()Z" } : Jvm.MethodName)) ∈ lw_gd := uc_4 (List.mem_of_getElem? (i := 61) (by decide +kernel)) (by decide +kernel)
theorem qc_1023 : (Jvm.Cond.instanceMethod ({ cls := "LineAssembler$Lexer", name := "readNumber", desc := "()Z" } : Jvm.MethodName)) ∈ lw_gd := uc_4 (List.mem_of_getElem? (i := 63) (by decide +kernel)) (by decide +kernel)
theorem qc_1024 : (Jvm.Cond.code ({ cls := "LineAssembler$Lexer", name := "readNumber", desc := "()Z" } : Jvm.MethodName) prog_6_method_6_code (2 : Nat) (Option.some Jvm.ClassFile.FieldType.boolean)) ∈ lw_gd := uc_4 (List.mem_of_getElem? (i := 64) (by decide +kernel)) (by decide +kernel)
theorem qc_1025 : (Jvm.Cond.methodLink "LineAssembler$Lexer" (90 : Nat) ({ cls := "LineAssembler$Lexer", name := "readDigits", desc := "(II)Z" } : Jvm.MethodName)) ∈ lw_gd := uc_4 (List.mem_of_getElem? (i := 65) (by decide +kernel)) (by decide +kernel)
theorem qc_1027 : (Jvm.Cond.instanceMethod ({ cls := "LineAssembler$Lexer", name := "readDigits", desc := "(II)Z" } : Jvm.MethodName)) ∈ lw_gd := uc_4 (List.mem_of_getElem? (i := 67) (by decide +kernel)) (by decide +kernel)
theorem qc_1028 : (Jvm.Cond.code ({ cls := "LineAssembler$Lexer", name := "readDigits", desc := "(II)Z" } : Jvm.MethodName) prog_6_method_8_code (7 : Nat) (Option.some Jvm.ClassFile.FieldType.boolean)) ∈ lw_gd := uc_4 (List.mem_of_getElem? (i := 68) (by decide +kernel)) (by decide +kernel)
theorem qc_1029 : (Jvm.Cond.methodLink "LineAssembler$Lexer" (97 : Nat) ({ cls := "LineAssembler$Lexer", name := "digit", desc := "(I)I" } : Jvm.MethodName)) ∈ lw_gd := uc_4 (List.mem_of_getElem? (i := 69) (by decide +kernel)) (by decide +kernel)
theorem qc_1030 : (Jvm.Cond.static ({ cls := "LineAssembler$Lexer", name := "digit", desc := "(I)I" } : Jvm.MethodName)) ∈ lw_gd := uc_4 (List.mem_of_getElem? (i := 70) (by decide +kernel)) (by decide +kernel)
theorem qc_1031 : (Jvm.Cond.code ({ cls := "LineAssembler$Lexer", name := "digit", desc := "(I)I" } : Jvm.MethodName) prog_6_method_15_code (1 : Nat) (Option.some Jvm.ClassFile.FieldType.int)) ∈ lw_gd := uc_4 (List.mem_of_getElem? (i := 71) (by decide +kernel)) (by decide +kernel)
theorem qc_1032 : (Jvm.Cond.constantLong "LineAssembler$Lexer" (100 : Nat) (4294967296 : Int64)) ∈ lw_gd := uc_4 (List.mem_of_getElem? (i := 72) (by decide +kernel)) (by decide +kernel)
theorem qc_1033 : (Jvm.Cond.methodLink "LineAssembler$Lexer" (102 : Nat) ({ cls := "java/lang/Math", name := "min", desc := "(JJ)J" } : Jvm.MethodName)) ∈ lw_gd := uc_4 (List.mem_of_getElem? (i := 73) (by decide +kernel)) (by decide +kernel)
theorem qc_1034 : (Jvm.Cond.static ({ cls := "java/lang/Math", name := "min", desc := "(JJ)J" } : Jvm.MethodName)) ∈ lw_gd := uc_4 (List.mem_of_getElem? (i := 74) (by decide +kernel)) (by decide +kernel)
theorem qc_1035 : (Jvm.Cond.code ({ cls := "java/lang/Math", name := "min", desc := "(JJ)J" } : Jvm.MethodName) prog_27_method_70_code (4 : Nat) (Option.some Jvm.ClassFile.FieldType.long)) ∈ lw_gd := uc_4 (List.mem_of_getElem? (i := 75) (by decide +kernel)) (by decide +kernel)
theorem qc_1036 : (Jvm.Cond.methodLink "LineAssembler$Lexer" (66 : Nat) ({ cls := "LineAssembler$Lexer", name := "isOfName", desc := "(I)Z" } : Jvm.MethodName)) ∈ lw_gd := uc_4 (List.mem_of_getElem? (i := 76) (by decide +kernel)) (by decide +kernel)
theorem qc_1037 : (Jvm.Cond.static ({ cls := "LineAssembler$Lexer", name := "isOfName", desc := "(I)Z" } : Jvm.MethodName)) ∈ lw_gd := uc_4 (List.mem_of_getElem? (i := 77) (by decide +kernel)) (by decide +kernel)
theorem qc_1038 : (Jvm.Cond.code ({ cls := "LineAssembler$Lexer", name := "isOfName", desc := "(I)Z" } : Jvm.MethodName) prog_6_method_14_code (1 : Nat) (Option.some Jvm.ClassFile.FieldType.boolean)) ∈ lw_gd := uc_4 (List.mem_of_getElem? (i := 78) (by decide +kernel)) (by decide +kernel)
theorem qc_1039 : (Jvm.Cond.methodLink "LineAssembler$Lexer" (48 : Nat) ({ cls := "LineAssembler$Tokens", name := "add", desc := "(III)V" } : Jvm.MethodName)) ∈ lw_gd := uc_4 (List.mem_of_getElem? (i := 79) (by decide +kernel)) (by decide +kernel)
theorem qc_1040 : (Jvm.Cond.instanceMethod ({ cls := "LineAssembler$Tokens", name := "add", desc := "(III)V" } : Jvm.MethodName)) ∈ lw_gd := uc_4 (List.mem_of_getElem? (i := 80) (by decide +kernel)) (by decide +kernel)
theorem qc_1041 : (Jvm.Cond.selects "LineAssembler$Tokens" ({ cls := "LineAssembler$Tokens", name := "add", desc := "(III)V" } : Jvm.MethodName) ({ cls := "LineAssembler$Tokens", name := "add", desc := "(III)V" } : Jvm.MethodName)) ∈ lw_gd := uc_4 (List.mem_of_getElem? (i := 81) (by decide +kernel)) (by decide +kernel)
theorem qc_1042 : (Jvm.Cond.code ({ cls := "LineAssembler$Tokens", name := "add", desc := "(III)V" } : Jvm.MethodName) prog_12_method_3_code (5 : Nat) (Option.none : Option Jvm.ClassFile.FieldType)) ∈ lw_gd := uc_4 (List.mem_of_getElem? (i := 82) (by decide +kernel)) (by decide +kernel)
theorem qc_1044 : (Jvm.Cond.methodLink "LineAssembler$Lexer" (94 : Nat) ({ cls := "LineAssembler$Lexer", name := "readNear", desc := "(I)Z" } : Jvm.MethodName)) ∈ lw_gd := uc_4 (List.mem_of_getElem? (i := 84) (by decide +kernel)) (by decide +kernel)
theorem qc_1046 : (Jvm.Cond.instanceMethod ({ cls := "LineAssembler$Lexer", name := "readNear", desc := "(I)Z" } : Jvm.MethodName)) ∈ lw_gd := uc_4 (List.mem_of_getElem? (i := 86) (by decide +kernel)) (by decide +kernel)
theorem qc_1047 : (Jvm.Cond.code ({ cls := "LineAssembler$Lexer", name := "readNear", desc := "(I)Z" } : Jvm.MethodName) prog_6_method_7_code (2 : Nat) (Option.some Jvm.ClassFile.FieldType.boolean)) ∈ lw_gd := uc_4 (List.mem_of_getElem? (i := 87) (by decide +kernel)) (by decide +kernel)
theorem qc_1048 : (Jvm.Cond.methodLink "LineAssembler$Lexer" (69 : Nat) ({ cls := "LineAssembler$Lexer", name := "readName", desc := "()Z" } : Jvm.MethodName)) ∈ lw_gd := uc_4 (List.mem_of_getElem? (i := 88) (by decide +kernel)) (by decide +kernel)
theorem qc_1050 : (Jvm.Cond.instanceMethod ({ cls := "LineAssembler$Lexer", name := "readName", desc := "()Z" } : Jvm.MethodName)) ∈ lw_gd := uc_4 (List.mem_of_getElem? (i := 90) (by decide +kernel)) (by decide +kernel)
theorem qc_1051 : (Jvm.Cond.code ({ cls := "LineAssembler$Lexer", name := "readName", desc := "()Z" } : Jvm.MethodName) prog_6_method_5_code (4 : Nat) (Option.some Jvm.ClassFile.FieldType.boolean)) ∈ lw_gd := uc_4 (List.mem_of_getElem? (i := 91) (by decide +kernel)) (by decide +kernel)
theorem qc_1052 : (Jvm.Cond.methodLink "LineAssembler$Lexer" (81 : Nat) ({ cls := "LineAssembler$Names", name := "put", desc := "(I)V" } : Jvm.MethodName)) ∈ lw_gd := uc_4 (List.mem_of_getElem? (i := 92) (by decide +kernel)) (by decide +kernel)
theorem qc_1053 : (Jvm.Cond.methodLink "LineAssembler$Lexer" (86 : Nat) ({ cls := "LineAssembler$Names", name := "finish", desc := "()I" } : Jvm.MethodName)) ∈ lw_gd := uc_4 (List.mem_of_getElem? (i := 93) (by decide +kernel)) (by decide +kernel)
theorem qc_1054 : (Jvm.Cond.methodLink "LineAssembler$Lexer" (72 : Nat) ({ cls := "LineAssembler$Lexer", name := "readQuoted", desc := "()Z" } : Jvm.MethodName)) ∈ lw_gd := uc_4 (List.mem_of_getElem? (i := 94) (by decide +kernel)) (by decide +kernel)
theorem qc_1056 : (Jvm.Cond.instanceMethod ({ cls := "LineAssembler$Lexer", name := "readQuoted", desc := "()Z" } : Jvm.MethodName)) ∈ lw_gd := uc_4 (List.mem_of_getElem? (i := 96) (by decide +kernel)) (by decide +kernel)
theorem qc_1057 : (Jvm.Cond.code ({ cls := "LineAssembler$Lexer", name := "readQuoted", desc := "()Z" } : Jvm.MethodName) prog_6_method_9_code (2 : Nat) (Option.some Jvm.ClassFile.FieldType.boolean)) ∈ lw_gd := uc_4 (List.mem_of_getElem? (i := 97) (by decide +kernel)) (by decide +kernel)
theorem qc_1058 : (Jvm.Cond.methodLink "LineAssembler$Lexer" (108 : Nat) ({ cls := "LineAssembler$Lexer", name := "readCharacter", desc := "(I)I" } : Jvm.MethodName)) ∈ lw_gd := uc_4 (List.mem_of_getElem? (i := 98) (by decide +kernel)) (by decide +kernel)
theorem qc_1060 : (Jvm.Cond.instanceMethod ({ cls := "LineAssembler$Lexer", name := "readCharacter", desc := "(I)I" } : Jvm.MethodName)) ∈ lw_gd := uc_4 (List.mem_of_getElem? (i := 100) (by decide +kernel)) (by decide +kernel)
theorem qc_1061 : (Jvm.Cond.code ({ cls := "LineAssembler$Lexer", name := "readCharacter", desc := "(I)I" } : Jvm.MethodName) prog_6_method_11_code (4 : Nat) (Option.some Jvm.ClassFile.FieldType.int)) ∈ lw_gd := uc_4 (List.mem_of_getElem? (i := 101) (by decide +kernel)) (by decide +kernel)
theorem qc_1062 : (Jvm.Cond.methodLink "LineAssembler$Lexer" (75 : Nat) ({ cls := "LineAssembler$Lexer", name := "readString", desc := "()Z" } : Jvm.MethodName)) ∈ lw_gd := uc_4 (List.mem_of_getElem? (i := 102) (by decide +kernel)) (by decide +kernel)
theorem qc_1064 : (Jvm.Cond.instanceMethod ({ cls := "LineAssembler$Lexer", name := "readString", desc := "()Z" } : Jvm.MethodName)) ∈ lw_gd := uc_4 (List.mem_of_getElem? (i := 104) (by decide +kernel)) (by decide +kernel)
theorem qc_1065 : (Jvm.Cond.code ({ cls := "LineAssembler$Lexer", name := "readString", desc := "()Z" } : Jvm.MethodName) prog_6_method_10_code (4 : Nat) (Option.some Jvm.ClassFile.FieldType.boolean)) ∈ lw_gd := uc_4 (List.mem_of_getElem? (i := 105) (by decide +kernel)) (by decide +kernel)
theorem qc_1066 : (Jvm.Cond.methodLink "LineAssembler$Lexer" (111 : Nat) ({ cls := "LineAssembler$Row", name := "add", desc := "(I)V" } : Jvm.MethodName)) ∈ lw_gd := uc_4 (List.mem_of_getElem? (i := 106) (by decide +kernel)) (by decide +kernel)
theorem qc_1067 : (Jvm.Cond.methodLink "LineAssembler$Lexer" (78 : Nat) ({ cls := "LineAssembler$Lexer", name := "readSign", desc := "(I)Z" } : Jvm.MethodName)) ∈ lw_gd := uc_4 (List.mem_of_getElem? (i := 107) (by decide +kernel)) (by decide +kernel)
theorem qc_1069 : (Jvm.Cond.instanceMethod ({ cls := "LineAssembler$Lexer", name := "readSign", desc := "(I)Z" } : Jvm.MethodName)) ∈ lw_gd := uc_4 (List.mem_of_getElem? (i := 109) (by decide +kernel)) (by decide +kernel)
theorem qc_1070 : (Jvm.Cond.code ({ cls := "LineAssembler$Lexer", name := "readSign", desc := "(I)Z" } : Jvm.MethodName) prog_6_method_12_code (2 : Nat) (Option.some Jvm.ClassFile.FieldType.boolean)) ∈ lw_gd := uc_4 (List.mem_of_getElem? (i := 110) (by decide +kernel)) (by decide +kernel)
abbrev cC_Lex_readCharacter : ByteArray := prog_6_method_11_code
def yC_Lex_readCharacter : MethodName := ⟨R_Lex, "readCharacter", "(I)I"⟩
theorem dC_Lex_readCharacter_0 : decode cC_Lex_readCharacter 0 = .ok (.aload_n 0, 1) := by decide +kernel
theorem dC_Lex_readCharacter_1 : decode cC_Lex_readCharacter 1 = .ok (.getfield 15, 3) := by decide +kernel
theorem dC_Lex_readCharacter_4 : decode cC_Lex_readCharacter 4 = .ok (.aload_n 0, 1) := by decide +kernel
theorem dC_Lex_readCharacter_5 : decode cC_Lex_readCharacter 5 = .ok (.getfield 9, 3) := by decide +kernel
theorem dC_Lex_readCharacter_8 : decode cC_Lex_readCharacter 8 = .ok (.invokevirtual 52, 3) := by decide +kernel
theorem dC_Lex_readCharacter_11 : decode cC_Lex_readCharacter 11 = .ok (.istore_n 2, 1) := by decide +kernel
theorem dC_Lex_readCharacter_12 : decode cC_Lex_readCharacter 12 = .ok (.aload_n 0, 1) := by decide +kernel
theorem dC_Lex_readCharacter_13 : decode cC_Lex_readCharacter 13 = .ok (.dup, 1) := by decide +kernel
theorem dC_Lex_readCharacter_14 : decode cC_Lex_readCharacter 14 = .ok (.getfield 9, 3) := by decide +kernel
theorem dC_Lex_readCharacter_17 : decode cC_Lex_readCharacter 17 = .ok (.iconst (1), 1) := by decide +kernel
theorem dC_Lex_readCharacter_18 : decode cC_Lex_readCharacter 18 = .ok (.iadd, 1) := by decide +kernel
theorem dC_Lex_readCharacter_19 : decode cC_Lex_readCharacter 19 = .ok (.putfield 9, 3) := by decide +kernel
theorem dC_Lex_readCharacter_22 : decode cC_Lex_readCharacter 22 = .ok (.iload_n 2, 1) := by decide +kernel
theorem dC_Lex_readCharacter_23 : decode cC_Lex_readCharacter 23 = .ok (.iload_n 1, 1) := by decide +kernel
theorem dC_Lex_readCharacter_24 : decode cC_Lex_readCharacter 24 = .ok (.if_icmp .eq (13), 3) := by decide +kernel
theorem dC_Lex_readCharacter_27 : decode cC_Lex_readCharacter 27 = .ok (.iload_n 2, 1) := by decide +kernel
theorem dC_Lex_readCharacter_28 : decode cC_Lex_readCharacter 28 = .ok (.bipush (10), 2) := by decide +kernel
theorem dC_Lex_readCharacter_30 : decode cC_Lex_readCharacter 30 = .ok (.if_icmp .eq (7), 3) := by decide +kernel
theorem dC_Lex_readCharacter_33 : decode cC_Lex_readCharacter 33 = .ok (.iload_n 2, 1) := by decide +kernel
theorem dC_Lex_readCharacter_34 : decode cC_Lex_readCharacter 34 = .ok (.ifCond .ne (5), 3) := by decide +kernel
theorem dC_Lex_readCharacter_37 : decode cC_Lex_readCharacter 37 = .ok (.iconst (-1), 1) := by decide +kernel
theorem dC_Lex_readCharacter_38 : decode cC_Lex_readCharacter 38 = .ok (.ireturn, 1) := by decide +kernel
theorem dC_Lex_readCharacter_39 : decode cC_Lex_readCharacter 39 = .ok (.iload_n 2, 1) := by decide +kernel
theorem dC_Lex_readCharacter_40 : decode cC_Lex_readCharacter 40 = .ok (.bipush (92), 2) := by decide +kernel
theorem dC_Lex_readCharacter_42 : decode cC_Lex_readCharacter 42 = .ok (.if_icmp .eq (5), 3) := by decide +kernel
theorem dC_Lex_readCharacter_45 : decode cC_Lex_readCharacter 45 = .ok (.iload_n 2, 1) := by decide +kernel
theorem dC_Lex_readCharacter_46 : decode cC_Lex_readCharacter 46 = .ok (.ireturn, 1) := by decide +kernel
theorem dC_Lex_readCharacter_47 : decode cC_Lex_readCharacter 47 = .ok (.aload_n 0, 1) := by decide +kernel
theorem dC_Lex_readCharacter_48 : decode cC_Lex_readCharacter 48 = .ok (.getfield 15, 3) := by decide +kernel
theorem dC_Lex_readCharacter_51 : decode cC_Lex_readCharacter 51 = .ok (.aload_n 0, 1) := by decide +kernel
theorem dC_Lex_readCharacter_52 : decode cC_Lex_readCharacter 52 = .ok (.getfield 9, 3) := by decide +kernel
theorem dC_Lex_readCharacter_55 : decode cC_Lex_readCharacter 55 = .ok (.invokevirtual 52, 3) := by decide +kernel
theorem dC_Lex_readCharacter_58 : decode cC_Lex_readCharacter 58 = .ok (.istore_n 3, 1) := by decide +kernel
theorem dC_Lex_readCharacter_59 : decode cC_Lex_readCharacter 59 = .ok (.aload_n 0, 1) := by decide +kernel
theorem dC_Lex_readCharacter_60 : decode cC_Lex_readCharacter 60 = .ok (.dup, 1) := by decide +kernel
theorem dC_Lex_readCharacter_61 : decode cC_Lex_readCharacter 61 = .ok (.getfield 9, 3) := by decide +kernel
theorem dC_Lex_readCharacter_64 : decode cC_Lex_readCharacter 64 = .ok (.iconst (1), 1) := by decide +kernel
theorem dC_Lex_readCharacter_65 : decode cC_Lex_readCharacter 65 = .ok (.iadd, 1) := by decide +kernel
theorem dC_Lex_readCharacter_66 : decode cC_Lex_readCharacter 66 = .ok (.putfield 9, 3) := by decide +kernel
theorem dC_Lex_readCharacter_69 : decode cC_Lex_readCharacter 69 = .ok (.iload_n 3, 1) := by decide +kernel
theorem dC_Lex_readCharacter_70 : decode cC_Lex_readCharacter 70 = .ok (.lookupswitch (68) #[(34, 66), (39, 66), (48, 64), (92, 66), (110, 58), (116, 61)], 58) := by decide +kernel
theorem dC_Lex_readCharacter_128 : decode cC_Lex_readCharacter 128 = .ok (.bipush (10), 2) := by decide +kernel
theorem dC_Lex_readCharacter_130 : decode cC_Lex_readCharacter 130 = .ok (.ireturn, 1) := by decide +kernel
theorem dC_Lex_readCharacter_131 : decode cC_Lex_readCharacter 131 = .ok (.bipush (9), 2) := by decide +kernel
theorem dC_Lex_readCharacter_133 : decode cC_Lex_readCharacter 133 = .ok (.ireturn, 1) := by decide +kernel
theorem dC_Lex_readCharacter_134 : decode cC_Lex_readCharacter 134 = .ok (.iconst (0), 1) := by decide +kernel
theorem dC_Lex_readCharacter_135 : decode cC_Lex_readCharacter 135 = .ok (.ireturn, 1) := by decide +kernel
theorem dC_Lex_readCharacter_136 : decode cC_Lex_readCharacter 136 = .ok (.iload_n 3, 1) := by decide +kernel
theorem dC_Lex_readCharacter_137 : decode cC_Lex_readCharacter 137 = .ok (.ireturn, 1) := by decide +kernel
theorem dC_Lex_readCharacter_138 : decode cC_Lex_readCharacter 138 = .ok (.iconst (-1), 1) := by decide +kernel
theorem dC_Lex_readCharacter_139 : decode cC_Lex_readCharacter 139 = .ok (.ireturn, 1) := by decide +kernel
abbrev cC_Lex_skipRemark : ByteArray := prog_6_method_4_code
def yC_Lex_skipRemark : MethodName := ⟨R_Lex, "skipRemark", "()V"⟩
theorem dC_Lex_skipRemark_0 : decode cC_Lex_skipRemark 0 = .ok (.aload_n 0, 1) := by decide +kernel
theorem dC_Lex_skipRemark_1 : decode cC_Lex_skipRemark 1 = .ok (.getfield 15, 3) := by decide +kernel
theorem dC_Lex_skipRemark_4 : decode cC_Lex_skipRemark 4 = .ok (.getfield 41, 3) := by decide +kernel
theorem dC_Lex_skipRemark_7 : decode cC_Lex_skipRemark 7 = .ok (.istore_n 1, 1) := by decide +kernel
theorem dC_Lex_skipRemark_8 : decode cC_Lex_skipRemark 8 = .ok (.iload_n 1, 1) := by decide +kernel
theorem dC_Lex_skipRemark_9 : decode cC_Lex_skipRemark 9 = .ok (.istore_n 2, 1) := by decide +kernel
theorem dC_Lex_skipRemark_10 : decode cC_Lex_skipRemark 10 = .ok (.iload_n 2, 1) := by decide +kernel
theorem dC_Lex_skipRemark_11 : decode cC_Lex_skipRemark 11 = .ok (.ifCond .le (43), 3) := by decide +kernel
theorem dC_Lex_skipRemark_14 : decode cC_Lex_skipRemark 14 = .ok (.aload_n 0, 1) := by decide +kernel
theorem dC_Lex_skipRemark_15 : decode cC_Lex_skipRemark 15 = .ok (.getfield 9, 3) := by decide +kernel
theorem dC_Lex_skipRemark_18 : decode cC_Lex_skipRemark 18 = .ok (.iload_n 1, 1) := by decide +kernel
theorem dC_Lex_skipRemark_19 : decode cC_Lex_skipRemark 19 = .ok (.if_icmp .ge (35), 3) := by decide +kernel
theorem dC_Lex_skipRemark_22 : decode cC_Lex_skipRemark 22 = .ok (.aload_n 0, 1) := by decide +kernel
theorem dC_Lex_skipRemark_23 : decode cC_Lex_skipRemark 23 = .ok (.getfield 15, 3) := by decide +kernel
theorem dC_Lex_skipRemark_26 : decode cC_Lex_skipRemark 26 = .ok (.aload_n 0, 1) := by decide +kernel
theorem dC_Lex_skipRemark_27 : decode cC_Lex_skipRemark 27 = .ok (.getfield 9, 3) := by decide +kernel
theorem dC_Lex_skipRemark_30 : decode cC_Lex_skipRemark 30 = .ok (.invokevirtual 52, 3) := by decide +kernel
theorem dC_Lex_skipRemark_33 : decode cC_Lex_skipRemark 33 = .ok (.bipush (10), 2) := by decide +kernel
theorem dC_Lex_skipRemark_35 : decode cC_Lex_skipRemark 35 = .ok (.if_icmp .eq (19), 3) := by decide +kernel
theorem dC_Lex_skipRemark_38 : decode cC_Lex_skipRemark 38 = .ok (.aload_n 0, 1) := by decide +kernel
theorem dC_Lex_skipRemark_39 : decode cC_Lex_skipRemark 39 = .ok (.dup, 1) := by decide +kernel
theorem dC_Lex_skipRemark_40 : decode cC_Lex_skipRemark 40 = .ok (.getfield 9, 3) := by decide +kernel
theorem dC_Lex_skipRemark_43 : decode cC_Lex_skipRemark 43 = .ok (.iconst (1), 1) := by decide +kernel
theorem dC_Lex_skipRemark_44 : decode cC_Lex_skipRemark 44 = .ok (.iadd, 1) := by decide +kernel
theorem dC_Lex_skipRemark_45 : decode cC_Lex_skipRemark 45 = .ok (.putfield 9, 3) := by decide +kernel
theorem dC_Lex_skipRemark_48 : decode cC_Lex_skipRemark 48 = .ok (.iinc 2 (-1), 3) := by decide +kernel
theorem dC_Lex_skipRemark_51 : decode cC_Lex_skipRemark 51 = .ok (.goto (-41), 3) := by decide +kernel
theorem dC_Lex_skipRemark_54 : decode cC_Lex_skipRemark 54 = .ok (.return_, 1) := by decide +kernel
abbrev cC_Lex_readName : ByteArray := prog_6_method_5_code
def yC_Lex_readName : MethodName := ⟨R_Lex, "readName", "()Z"⟩
theorem dC_Lex_readName_0 : decode cC_Lex_readName 0 = .ok (.aload_n 0, 1) := by decide +kernel
theorem dC_Lex_readName_1 : decode cC_Lex_readName 1 = .ok (.getfield 9, 3) := by decide +kernel
theorem dC_Lex_readName_4 : decode cC_Lex_readName 4 = .ok (.istore_n 1, 1) := by decide +kernel
theorem dC_Lex_readName_5 : decode cC_Lex_readName 5 = .ok (.aload_n 0, 1) := by decide +kernel
theorem dC_Lex_readName_6 : decode cC_Lex_readName 6 = .ok (.getfield 15, 3) := by decide +kernel
theorem dC_Lex_readName_9 : decode cC_Lex_readName 9 = .ok (.getfield 41, 3) := by decide +kernel
theorem dC_Lex_readName_12 : decode cC_Lex_readName 12 = .ok (.istore_n 2, 1) := by decide +kernel
theorem dC_Lex_readName_13 : decode cC_Lex_readName 13 = .ok (.iload_n 2, 1) := by decide +kernel
theorem dC_Lex_readName_14 : decode cC_Lex_readName 14 = .ok (.istore_n 3, 1) := by decide +kernel
theorem dC_Lex_readName_15 : decode cC_Lex_readName 15 = .ok (.iload_n 3, 1) := by decide +kernel
theorem dC_Lex_readName_16 : decode cC_Lex_readName 16 = .ok (.ifCond .le (44), 3) := by decide +kernel
theorem dC_Lex_readName_19 : decode cC_Lex_readName 19 = .ok (.aload_n 0, 1) := by decide +kernel
theorem dC_Lex_readName_20 : decode cC_Lex_readName 20 = .ok (.getfield 9, 3) := by decide +kernel
theorem dC_Lex_readName_23 : decode cC_Lex_readName 23 = .ok (.iload_n 2, 1) := by decide +kernel
theorem dC_Lex_readName_24 : decode cC_Lex_readName 24 = .ok (.if_icmp .ge (36), 3) := by decide +kernel
theorem dC_Lex_readName_27 : decode cC_Lex_readName 27 = .ok (.aload_n 0, 1) := by decide +kernel
theorem dC_Lex_readName_28 : decode cC_Lex_readName 28 = .ok (.getfield 15, 3) := by decide +kernel
theorem dC_Lex_readName_31 : decode cC_Lex_readName 31 = .ok (.aload_n 0, 1) := by decide +kernel
theorem dC_Lex_readName_32 : decode cC_Lex_readName 32 = .ok (.getfield 9, 3) := by decide +kernel
theorem dC_Lex_readName_35 : decode cC_Lex_readName 35 = .ok (.invokevirtual 52, 3) := by decide +kernel
theorem dC_Lex_readName_38 : decode cC_Lex_readName 38 = .ok (.invokestatic 66, 3) := by decide +kernel
theorem dC_Lex_readName_41 : decode cC_Lex_readName 41 = .ok (.ifCond .eq (19), 3) := by decide +kernel
theorem dC_Lex_readName_44 : decode cC_Lex_readName 44 = .ok (.aload_n 0, 1) := by decide +kernel
theorem dC_Lex_readName_45 : decode cC_Lex_readName 45 = .ok (.dup, 1) := by decide +kernel
theorem dC_Lex_readName_46 : decode cC_Lex_readName 46 = .ok (.getfield 9, 3) := by decide +kernel
theorem dC_Lex_readName_49 : decode cC_Lex_readName 49 = .ok (.iconst (1), 1) := by decide +kernel
theorem dC_Lex_readName_50 : decode cC_Lex_readName 50 = .ok (.iadd, 1) := by decide +kernel
theorem dC_Lex_readName_51 : decode cC_Lex_readName 51 = .ok (.putfield 9, 3) := by decide +kernel
theorem dC_Lex_readName_54 : decode cC_Lex_readName 54 = .ok (.iinc 3 (-1), 3) := by decide +kernel
theorem dC_Lex_readName_57 : decode cC_Lex_readName 57 = .ok (.goto (-42), 3) := by decide +kernel
theorem dC_Lex_readName_60 : decode cC_Lex_readName 60 = .ok (.aload_n 0, 1) := by decide +kernel
theorem dC_Lex_readName_61 : decode cC_Lex_readName 61 = .ok (.getfield 9, 3) := by decide +kernel
theorem dC_Lex_readName_64 : decode cC_Lex_readName 64 = .ok (.iload_n 1, 1) := by decide +kernel
theorem dC_Lex_readName_65 : decode cC_Lex_readName 65 = .ok (.isub, 1) := by decide +kernel
theorem dC_Lex_readName_66 : decode cC_Lex_readName 66 = .ok (.bipush (31), 2) := by decide +kernel
theorem dC_Lex_readName_68 : decode cC_Lex_readName 68 = .ok (.if_icmp .le (5), 3) := by decide +kernel
theorem dC_Lex_readName_71 : decode cC_Lex_readName 71 = .ok (.iconst (0), 1) := by decide +kernel
theorem dC_Lex_readName_72 : decode cC_Lex_readName 72 = .ok (.ireturn, 1) := by decide +kernel
theorem dC_Lex_readName_73 : decode cC_Lex_readName 73 = .ok (.iload_n 1, 1) := by decide +kernel
theorem dC_Lex_readName_74 : decode cC_Lex_readName 74 = .ok (.istore_n 3, 1) := by decide +kernel
theorem dC_Lex_readName_75 : decode cC_Lex_readName 75 = .ok (.iload_n 3, 1) := by decide +kernel
theorem dC_Lex_readName_76 : decode cC_Lex_readName 76 = .ok (.aload_n 0, 1) := by decide +kernel
theorem dC_Lex_readName_77 : decode cC_Lex_readName 77 = .ok (.getfield 9, 3) := by decide +kernel
theorem dC_Lex_readName_80 : decode cC_Lex_readName 80 = .ok (.if_icmp .ge (24), 3) := by decide +kernel
theorem dC_Lex_readName_83 : decode cC_Lex_readName 83 = .ok (.aload_n 0, 1) := by decide +kernel
theorem dC_Lex_readName_84 : decode cC_Lex_readName 84 = .ok (.getfield 19, 3) := by decide +kernel
theorem dC_Lex_readName_87 : decode cC_Lex_readName 87 = .ok (.aload_n 0, 1) := by decide +kernel
theorem dC_Lex_readName_88 : decode cC_Lex_readName 88 = .ok (.getfield 15, 3) := by decide +kernel
theorem dC_Lex_readName_91 : decode cC_Lex_readName 91 = .ok (.iload_n 3, 1) := by decide +kernel
theorem dC_Lex_readName_92 : decode cC_Lex_readName 92 = .ok (.invokevirtual 52, 3) := by decide +kernel
theorem dC_Lex_readName_95 : decode cC_Lex_readName 95 = .ok (.invokevirtual 81, 3) := by decide +kernel
theorem dC_Lex_readName_98 : decode cC_Lex_readName 98 = .ok (.iinc 3 (1), 3) := by decide +kernel
theorem dC_Lex_readName_101 : decode cC_Lex_readName 101 = .ok (.goto (-26), 3) := by decide +kernel
theorem dC_Lex_readName_104 : decode cC_Lex_readName 104 = .ok (.aload_n 0, 1) := by decide +kernel
theorem dC_Lex_readName_105 : decode cC_Lex_readName 105 = .ok (.getfield 23, 3) := by decide +kernel
theorem dC_Lex_readName_108 : decode cC_Lex_readName 108 = .ok (.iconst (2), 1) := by decide +kernel
theorem dC_Lex_readName_109 : decode cC_Lex_readName 109 = .ok (.aload_n 0, 1) := by decide +kernel
theorem dC_Lex_readName_110 : decode cC_Lex_readName 110 = .ok (.getfield 19, 3) := by decide +kernel
theorem dC_Lex_readName_113 : decode cC_Lex_readName 113 = .ok (.invokevirtual 86, 3) := by decide +kernel
theorem dC_Lex_readName_116 : decode cC_Lex_readName 116 = .ok (.iconst (0), 1) := by decide +kernel
theorem dC_Lex_readName_117 : decode cC_Lex_readName 117 = .ok (.invokevirtual 48, 3) := by decide +kernel
theorem dC_Lex_readName_120 : decode cC_Lex_readName 120 = .ok (.iconst (1), 1) := by decide +kernel
theorem dC_Lex_readName_121 : decode cC_Lex_readName 121 = .ok (.ireturn, 1) := by decide +kernel
abbrev cC_Lex_readNear : ByteArray := prog_6_method_7_code
def yC_Lex_readNear : MethodName := ⟨R_Lex, "readNear", "(I)Z"⟩
theorem dC_Lex_readNear_0 : decode cC_Lex_readNear 0 = .ok (.aload_n 0, 1) := by decide +kernel
theorem dC_Lex_readNear_1 : decode cC_Lex_readNear 1 = .ok (.getfield 15, 3) := by decide +kernel
theorem dC_Lex_readNear_4 : decode cC_Lex_readNear 4 = .ok (.aload_n 0, 1) := by decide +kernel
theorem dC_Lex_readNear_5 : decode cC_Lex_readNear 5 = .ok (.getfield 9, 3) := by decide +kernel
theorem dC_Lex_readNear_8 : decode cC_Lex_readNear 8 = .ok (.iconst (2), 1) := by decide +kernel
theorem dC_Lex_readNear_9 : decode cC_Lex_readNear 9 = .ok (.iadd, 1) := by decide +kernel
theorem dC_Lex_readNear_10 : decode cC_Lex_readNear 10 = .ok (.invokevirtual 52, 3) := by decide +kernel
theorem dC_Lex_readNear_13 : decode cC_Lex_readNear 13 = .ok (.invokestatic 66, 3) := by decide +kernel
theorem dC_Lex_readNear_16 : decode cC_Lex_readNear 16 = .ok (.ifCond .eq (5), 3) := by decide +kernel
theorem dC_Lex_readNear_19 : decode cC_Lex_readNear 19 = .ok (.iconst (0), 1) := by decide +kernel
theorem dC_Lex_readNear_20 : decode cC_Lex_readNear 20 = .ok (.ireturn, 1) := by decide +kernel
theorem dC_Lex_readNear_21 : decode cC_Lex_readNear 21 = .ok (.aload_n 0, 1) := by decide +kernel
theorem dC_Lex_readNear_22 : decode cC_Lex_readNear 22 = .ok (.getfield 23, 3) := by decide +kernel
theorem dC_Lex_readNear_25 : decode cC_Lex_readNear 25 = .ok (.iconst (5), 1) := by decide +kernel
theorem dC_Lex_readNear_26 : decode cC_Lex_readNear 26 = .ok (.iconst (2), 1) := by decide +kernel
theorem dC_Lex_readNear_27 : decode cC_Lex_readNear 27 = .ok (.aload_n 0, 1) := by decide +kernel
theorem dC_Lex_readNear_28 : decode cC_Lex_readNear 28 = .ok (.getfield 15, 3) := by decide +kernel
theorem dC_Lex_readNear_31 : decode cC_Lex_readNear 31 = .ok (.aload_n 0, 1) := by decide +kernel
theorem dC_Lex_readNear_32 : decode cC_Lex_readNear 32 = .ok (.getfield 9, 3) := by decide +kernel
theorem dC_Lex_readNear_35 : decode cC_Lex_readNear 35 = .ok (.invokevirtual 52, 3) := by decide +kernel
theorem dC_Lex_readNear_38 : decode cC_Lex_readNear 38 = .ok (.bipush (48), 2) := by decide +kernel
theorem dC_Lex_readNear_40 : decode cC_Lex_readNear 40 = .ok (.isub, 1) := by decide +kernel
theorem dC_Lex_readNear_41 : decode cC_Lex_readNear 41 = .ok (.imul, 1) := by decide +kernel
theorem dC_Lex_readNear_42 : decode cC_Lex_readNear 42 = .ok (.iload_n 1, 1) := by decide +kernel
theorem dC_Lex_readNear_43 : decode cC_Lex_readNear 43 = .ok (.bipush (102), 2) := by decide +kernel
theorem dC_Lex_readNear_45 : decode cC_Lex_readNear 45 = .ok (.if_icmp .ne (7), 3) := by decide +kernel
theorem dC_Lex_readNear_48 : decode cC_Lex_readNear 48 = .ok (.iconst (1), 1) := by decide +kernel
theorem dC_Lex_readNear_49 : decode cC_Lex_readNear 49 = .ok (.goto (4), 3) := by decide +kernel
theorem dC_Lex_readNear_52 : decode cC_Lex_readNear 52 = .ok (.iconst (0), 1) := by decide +kernel
theorem dC_Lex_readNear_53 : decode cC_Lex_readNear 53 = .ok (.iadd, 1) := by decide +kernel
theorem dC_Lex_readNear_54 : decode cC_Lex_readNear 54 = .ok (.iconst (0), 1) := by decide +kernel
theorem dC_Lex_readNear_55 : decode cC_Lex_readNear 55 = .ok (.invokevirtual 48, 3) := by decide +kernel
theorem dC_Lex_readNear_58 : decode cC_Lex_readNear 58 = .ok (.aload_n 0, 1) := by decide +kernel
theorem dC_Lex_readNear_59 : decode cC_Lex_readNear 59 = .ok (.dup, 1) := by decide +kernel
theorem dC_Lex_readNear_60 : decode cC_Lex_readNear 60 = .ok (.getfield 9, 3) := by decide +kernel
theorem dC_Lex_readNear_63 : decode cC_Lex_readNear 63 = .ok (.iconst (2), 1) := by decide +kernel
theorem dC_Lex_readNear_64 : decode cC_Lex_readNear 64 = .ok (.iadd, 1) := by decide +kernel
theorem dC_Lex_readNear_65 : decode cC_Lex_readNear 65 = .ok (.putfield 9, 3) := by decide +kernel
theorem dC_Lex_readNear_68 : decode cC_Lex_readNear 68 = .ok (.iconst (1), 1) := by decide +kernel
theorem dC_Lex_readNear_69 : decode cC_Lex_readNear 69 = .ok (.ireturn, 1) := by decide +kernel
abbrev cC_Lex_readDigits : ByteArray := prog_6_method_8_code
def yC_Lex_readDigits : MethodName := ⟨R_Lex, "readDigits", "(II)Z"⟩
theorem dC_Lex_readDigits_0 : decode cC_Lex_readDigits 0 = .ok (.lconst 0, 1) := by decide +kernel
theorem dC_Lex_readDigits_1 : decode cC_Lex_readDigits 1 = .ok (.lstore_n 3, 1) := by decide +kernel
theorem dC_Lex_readDigits_2 : decode cC_Lex_readDigits 2 = .ok (.aload_n 0, 1) := by decide +kernel
theorem dC_Lex_readDigits_3 : decode cC_Lex_readDigits 3 = .ok (.iload_n 2, 1) := by decide +kernel
theorem dC_Lex_readDigits_4 : decode cC_Lex_readDigits 4 = .ok (.putfield 9, 3) := by decide +kernel
theorem dC_Lex_readDigits_7 : decode cC_Lex_readDigits 7 = .ok (.aload_n 0, 1) := by decide +kernel
theorem dC_Lex_readDigits_8 : decode cC_Lex_readDigits 8 = .ok (.getfield 15, 3) := by decide +kernel
theorem dC_Lex_readDigits_11 : decode cC_Lex_readDigits 11 = .ok (.getfield 41, 3) := by decide +kernel
theorem dC_Lex_readDigits_14 : decode cC_Lex_readDigits 14 = .ok (.istore 5, 2) := by decide +kernel
theorem dC_Lex_readDigits_16 : decode cC_Lex_readDigits 16 = .ok (.iload 5, 2) := by decide +kernel
theorem dC_Lex_readDigits_18 : decode cC_Lex_readDigits 18 = .ok (.istore 6, 2) := by decide +kernel
theorem dC_Lex_readDigits_20 : decode cC_Lex_readDigits 20 = .ok (.iload 6, 2) := by decide +kernel
theorem dC_Lex_readDigits_22 : decode cC_Lex_readDigits 22 = .ok (.ifCond .le (73), 3) := by decide +kernel
theorem dC_Lex_readDigits_25 : decode cC_Lex_readDigits 25 = .ok (.aload_n 0, 1) := by decide +kernel
theorem dC_Lex_readDigits_26 : decode cC_Lex_readDigits 26 = .ok (.getfield 9, 3) := by decide +kernel
theorem dC_Lex_readDigits_29 : decode cC_Lex_readDigits 29 = .ok (.iload 5, 2) := by decide +kernel
theorem dC_Lex_readDigits_31 : decode cC_Lex_readDigits 31 = .ok (.if_icmp .ge (64), 3) := by decide +kernel
theorem dC_Lex_readDigits_34 : decode cC_Lex_readDigits 34 = .ok (.aload_n 0, 1) := by decide +kernel
theorem dC_Lex_readDigits_35 : decode cC_Lex_readDigits 35 = .ok (.getfield 15, 3) := by decide +kernel
theorem dC_Lex_readDigits_38 : decode cC_Lex_readDigits 38 = .ok (.aload_n 0, 1) := by decide +kernel
theorem dC_Lex_readDigits_39 : decode cC_Lex_readDigits 39 = .ok (.getfield 9, 3) := by decide +kernel
theorem dC_Lex_readDigits_42 : decode cC_Lex_readDigits 42 = .ok (.invokevirtual 52, 3) := by decide +kernel
theorem dC_Lex_readDigits_45 : decode cC_Lex_readDigits 45 = .ok (.invokestatic 97, 3) := by decide +kernel
theorem dC_Lex_readDigits_48 : decode cC_Lex_readDigits 48 = .ok (.iload_n 1, 1) := by decide +kernel
theorem dC_Lex_readDigits_49 : decode cC_Lex_readDigits 49 = .ok (.if_icmp .ge (46), 3) := by decide +kernel
theorem dC_Lex_readDigits_52 : decode cC_Lex_readDigits 52 = .ok (.lload_n 3, 1) := by decide +kernel
theorem dC_Lex_readDigits_53 : decode cC_Lex_readDigits 53 = .ok (.iload_n 1, 1) := by decide +kernel
theorem dC_Lex_readDigits_54 : decode cC_Lex_readDigits 54 = .ok (.i2l, 1) := by decide +kernel
theorem dC_Lex_readDigits_55 : decode cC_Lex_readDigits 55 = .ok (.lmul, 1) := by decide +kernel
theorem dC_Lex_readDigits_56 : decode cC_Lex_readDigits 56 = .ok (.aload_n 0, 1) := by decide +kernel
theorem dC_Lex_readDigits_57 : decode cC_Lex_readDigits 57 = .ok (.getfield 15, 3) := by decide +kernel
theorem dC_Lex_readDigits_60 : decode cC_Lex_readDigits 60 = .ok (.aload_n 0, 1) := by decide +kernel
theorem dC_Lex_readDigits_61 : decode cC_Lex_readDigits 61 = .ok (.getfield 9, 3) := by decide +kernel
theorem dC_Lex_readDigits_64 : decode cC_Lex_readDigits 64 = .ok (.invokevirtual 52, 3) := by decide +kernel
theorem dC_Lex_readDigits_67 : decode cC_Lex_readDigits 67 = .ok (.invokestatic 97, 3) := by decide +kernel
theorem dC_Lex_readDigits_70 : decode cC_Lex_readDigits 70 = .ok (.i2l, 1) := by decide +kernel
theorem dC_Lex_readDigits_71 : decode cC_Lex_readDigits 71 = .ok (.ladd, 1) := by decide +kernel
theorem dC_Lex_readDigits_72 : decode cC_Lex_readDigits 72 = .ok (.ldc2_w 100, 3) := by decide +kernel
theorem dC_Lex_readDigits_75 : decode cC_Lex_readDigits 75 = .ok (.invokestatic 102, 3) := by decide +kernel
theorem dC_Lex_readDigits_78 : decode cC_Lex_readDigits 78 = .ok (.lstore_n 3, 1) := by decide +kernel
theorem dC_Lex_readDigits_79 : decode cC_Lex_readDigits 79 = .ok (.aload_n 0, 1) := by decide +kernel
theorem dC_Lex_readDigits_80 : decode cC_Lex_readDigits 80 = .ok (.dup, 1) := by decide +kernel
theorem dC_Lex_readDigits_81 : decode cC_Lex_readDigits 81 = .ok (.getfield 9, 3) := by decide +kernel
theorem dC_Lex_readDigits_84 : decode cC_Lex_readDigits 84 = .ok (.iconst (1), 1) := by decide +kernel
theorem dC_Lex_readDigits_85 : decode cC_Lex_readDigits 85 = .ok (.iadd, 1) := by decide +kernel
theorem dC_Lex_readDigits_86 : decode cC_Lex_readDigits 86 = .ok (.putfield 9, 3) := by decide +kernel
theorem dC_Lex_readDigits_89 : decode cC_Lex_readDigits 89 = .ok (.iinc 6 (-1), 3) := by decide +kernel
theorem dC_Lex_readDigits_92 : decode cC_Lex_readDigits 92 = .ok (.goto (-72), 3) := by decide +kernel
theorem dC_Lex_readDigits_95 : decode cC_Lex_readDigits 95 = .ok (.aload_n 0, 1) := by decide +kernel
theorem dC_Lex_readDigits_96 : decode cC_Lex_readDigits 96 = .ok (.getfield 9, 3) := by decide +kernel
theorem dC_Lex_readDigits_99 : decode cC_Lex_readDigits 99 = .ok (.iload_n 2, 1) := by decide +kernel
theorem dC_Lex_readDigits_100 : decode cC_Lex_readDigits 100 = .ok (.if_icmp .eq (28), 3) := by decide +kernel
theorem dC_Lex_readDigits_103 : decode cC_Lex_readDigits 103 = .ok (.lload_n 3, 1) := by decide +kernel
theorem dC_Lex_readDigits_104 : decode cC_Lex_readDigits 104 = .ok (.ldc2_w 100, 3) := by decide +kernel
theorem dC_Lex_readDigits_107 : decode cC_Lex_readDigits 107 = .ok (.lcmp, 1) := by decide +kernel
theorem dC_Lex_readDigits_108 : decode cC_Lex_readDigits 108 = .ok (.ifCond .ge (20), 3) := by decide +kernel
theorem dC_Lex_readDigits_111 : decode cC_Lex_readDigits 111 = .ok (.aload_n 0, 1) := by decide +kernel
theorem dC_Lex_readDigits_112 : decode cC_Lex_readDigits 112 = .ok (.getfield 15, 3) := by decide +kernel
theorem dC_Lex_readDigits_115 : decode cC_Lex_readDigits 115 = .ok (.aload_n 0, 1) := by decide +kernel
theorem dC_Lex_readDigits_116 : decode cC_Lex_readDigits 116 = .ok (.getfield 9, 3) := by decide +kernel
theorem dC_Lex_readDigits_119 : decode cC_Lex_readDigits 119 = .ok (.invokevirtual 52, 3) := by decide +kernel
theorem dC_Lex_readDigits_122 : decode cC_Lex_readDigits 122 = .ok (.invokestatic 66, 3) := by decide +kernel
theorem dC_Lex_readDigits_125 : decode cC_Lex_readDigits 125 = .ok (.ifCond .eq (5), 3) := by decide +kernel
theorem dC_Lex_readDigits_128 : decode cC_Lex_readDigits 128 = .ok (.iconst (0), 1) := by decide +kernel
theorem dC_Lex_readDigits_129 : decode cC_Lex_readDigits 129 = .ok (.ireturn, 1) := by decide +kernel
theorem dC_Lex_readDigits_130 : decode cC_Lex_readDigits 130 = .ok (.aload_n 0, 1) := by decide +kernel
theorem dC_Lex_readDigits_131 : decode cC_Lex_readDigits 131 = .ok (.getfield 23, 3) := by decide +kernel
theorem dC_Lex_readDigits_134 : decode cC_Lex_readDigits 134 = .ok (.iload_n 1, 1) := by decide +kernel
theorem dC_Lex_readDigits_135 : decode cC_Lex_readDigits 135 = .ok (.bipush (10), 2) := by decide +kernel
theorem dC_Lex_readDigits_137 : decode cC_Lex_readDigits 137 = .ok (.if_icmp .ne (17), 3) := by decide +kernel
theorem dC_Lex_readDigits_140 : decode cC_Lex_readDigits 140 = .ok (.aload_n 0, 1) := by decide +kernel
theorem dC_Lex_readDigits_141 : decode cC_Lex_readDigits 141 = .ok (.getfield 9, 3) := by decide +kernel
theorem dC_Lex_readDigits_144 : decode cC_Lex_readDigits 144 = .ok (.iload_n 2, 1) := by decide +kernel
theorem dC_Lex_readDigits_145 : decode cC_Lex_readDigits 145 = .ok (.isub, 1) := by decide +kernel
theorem dC_Lex_readDigits_146 : decode cC_Lex_readDigits 146 = .ok (.iconst (1), 1) := by decide +kernel
theorem dC_Lex_readDigits_147 : decode cC_Lex_readDigits 147 = .ok (.if_icmp .ne (7), 3) := by decide +kernel
theorem dC_Lex_readDigits_150 : decode cC_Lex_readDigits 150 = .ok (.iconst (4), 1) := by decide +kernel
theorem dC_Lex_readDigits_151 : decode cC_Lex_readDigits 151 = .ok (.goto (4), 3) := by decide +kernel
theorem dC_Lex_readDigits_154 : decode cC_Lex_readDigits 154 = .ok (.iconst (3), 1) := by decide +kernel
theorem dC_Lex_readDigits_155 : decode cC_Lex_readDigits 155 = .ok (.lload_n 3, 1) := by decide +kernel
theorem dC_Lex_readDigits_156 : decode cC_Lex_readDigits 156 = .ok (.l2i, 1) := by decide +kernel
theorem dC_Lex_readDigits_157 : decode cC_Lex_readDigits 157 = .ok (.iconst (0), 1) := by decide +kernel
theorem dC_Lex_readDigits_158 : decode cC_Lex_readDigits 158 = .ok (.invokevirtual 48, 3) := by decide +kernel
theorem dC_Lex_readDigits_161 : decode cC_Lex_readDigits 161 = .ok (.iconst (1), 1) := by decide +kernel
theorem dC_Lex_readDigits_162 : decode cC_Lex_readDigits 162 = .ok (.ireturn, 1) := by decide +kernel
abbrev cC_Lex_readNumber : ByteArray := prog_6_method_6_code
def yC_Lex_readNumber : MethodName := ⟨R_Lex, "readNumber", "()Z"⟩
theorem dC_Lex_readNumber_0 : decode cC_Lex_readNumber 0 = .ok (.aload_n 0, 1) := by decide +kernel
theorem dC_Lex_readNumber_1 : decode cC_Lex_readNumber 1 = .ok (.getfield 15, 3) := by decide +kernel
theorem dC_Lex_readNumber_4 : decode cC_Lex_readNumber 4 = .ok (.aload_n 0, 1) := by decide +kernel
theorem dC_Lex_readNumber_5 : decode cC_Lex_readNumber 5 = .ok (.getfield 9, 3) := by decide +kernel
theorem dC_Lex_readNumber_8 : decode cC_Lex_readNumber 8 = .ok (.iconst (1), 1) := by decide +kernel
theorem dC_Lex_readNumber_9 : decode cC_Lex_readNumber 9 = .ok (.iadd, 1) := by decide +kernel
theorem dC_Lex_readNumber_10 : decode cC_Lex_readNumber 10 = .ok (.invokevirtual 52, 3) := by decide +kernel
theorem dC_Lex_readNumber_13 : decode cC_Lex_readNumber 13 = .ok (.istore_n 1, 1) := by decide +kernel
theorem dC_Lex_readNumber_14 : decode cC_Lex_readNumber 14 = .ok (.aload_n 0, 1) := by decide +kernel
theorem dC_Lex_readNumber_15 : decode cC_Lex_readNumber 15 = .ok (.getfield 15, 3) := by decide +kernel
theorem dC_Lex_readNumber_18 : decode cC_Lex_readNumber 18 = .ok (.aload_n 0, 1) := by decide +kernel
theorem dC_Lex_readNumber_19 : decode cC_Lex_readNumber 19 = .ok (.getfield 9, 3) := by decide +kernel
theorem dC_Lex_readNumber_22 : decode cC_Lex_readNumber 22 = .ok (.invokevirtual 52, 3) := by decide +kernel
theorem dC_Lex_readNumber_25 : decode cC_Lex_readNumber 25 = .ok (.bipush (48), 2) := by decide +kernel
theorem dC_Lex_readNumber_27 : decode cC_Lex_readNumber 27 = .ok (.if_icmp .ne (22), 3) := by decide +kernel
theorem dC_Lex_readNumber_30 : decode cC_Lex_readNumber 30 = .ok (.iload_n 1, 1) := by decide +kernel
theorem dC_Lex_readNumber_31 : decode cC_Lex_readNumber 31 = .ok (.bipush (120), 2) := by decide +kernel
theorem dC_Lex_readNumber_33 : decode cC_Lex_readNumber 33 = .ok (.if_icmp .ne (16), 3) := by decide +kernel
theorem dC_Lex_readNumber_36 : decode cC_Lex_readNumber 36 = .ok (.aload_n 0, 1) := by decide +kernel
theorem dC_Lex_readNumber_37 : decode cC_Lex_readNumber 37 = .ok (.bipush (16), 2) := by decide +kernel
theorem dC_Lex_readNumber_39 : decode cC_Lex_readNumber 39 = .ok (.aload_n 0, 1) := by decide +kernel
theorem dC_Lex_readNumber_40 : decode cC_Lex_readNumber 40 = .ok (.getfield 9, 3) := by decide +kernel
theorem dC_Lex_readNumber_43 : decode cC_Lex_readNumber 43 = .ok (.iconst (2), 1) := by decide +kernel
theorem dC_Lex_readNumber_44 : decode cC_Lex_readNumber 44 = .ok (.iadd, 1) := by decide +kernel
theorem dC_Lex_readNumber_45 : decode cC_Lex_readNumber 45 = .ok (.invokevirtual 90, 3) := by decide +kernel
theorem dC_Lex_readNumber_48 : decode cC_Lex_readNumber 48 = .ok (.ireturn, 1) := by decide +kernel
theorem dC_Lex_readNumber_49 : decode cC_Lex_readNumber 49 = .ok (.aload_n 0, 1) := by decide +kernel
theorem dC_Lex_readNumber_50 : decode cC_Lex_readNumber 50 = .ok (.getfield 15, 3) := by decide +kernel
theorem dC_Lex_readNumber_53 : decode cC_Lex_readNumber 53 = .ok (.aload_n 0, 1) := by decide +kernel
theorem dC_Lex_readNumber_54 : decode cC_Lex_readNumber 54 = .ok (.getfield 9, 3) := by decide +kernel
theorem dC_Lex_readNumber_57 : decode cC_Lex_readNumber 57 = .ok (.invokevirtual 52, 3) := by decide +kernel
theorem dC_Lex_readNumber_60 : decode cC_Lex_readNumber 60 = .ok (.bipush (48), 2) := by decide +kernel
theorem dC_Lex_readNumber_62 : decode cC_Lex_readNumber 62 = .ok (.if_icmp .ne (40), 3) := by decide +kernel
theorem dC_Lex_readNumber_65 : decode cC_Lex_readNumber 65 = .ok (.iload_n 1, 1) := by decide +kernel
theorem dC_Lex_readNumber_66 : decode cC_Lex_readNumber 66 = .ok (.bipush (98), 2) := by decide +kernel
theorem dC_Lex_readNumber_68 : decode cC_Lex_readNumber 68 = .ok (.if_icmp .ne (34), 3) := by decide +kernel
theorem dC_Lex_readNumber_71 : decode cC_Lex_readNumber 71 = .ok (.aload_n 0, 1) := by decide +kernel
theorem dC_Lex_readNumber_72 : decode cC_Lex_readNumber 72 = .ok (.getfield 15, 3) := by decide +kernel
theorem dC_Lex_readNumber_75 : decode cC_Lex_readNumber 75 = .ok (.aload_n 0, 1) := by decide +kernel
theorem dC_Lex_readNumber_76 : decode cC_Lex_readNumber 76 = .ok (.getfield 9, 3) := by decide +kernel
theorem dC_Lex_readNumber_79 : decode cC_Lex_readNumber 79 = .ok (.iconst (2), 1) := by decide +kernel
theorem dC_Lex_readNumber_80 : decode cC_Lex_readNumber 80 = .ok (.iadd, 1) := by decide +kernel
theorem dC_Lex_readNumber_81 : decode cC_Lex_readNumber 81 = .ok (.invokevirtual 52, 3) := by decide +kernel
theorem dC_Lex_readNumber_84 : decode cC_Lex_readNumber 84 = .ok (.invokestatic 66, 3) := by decide +kernel
theorem dC_Lex_readNumber_87 : decode cC_Lex_readNumber 87 = .ok (.ifCond .eq (15), 3) := by decide +kernel
theorem dC_Lex_readNumber_90 : decode cC_Lex_readNumber 90 = .ok (.aload_n 0, 1) := by decide +kernel
theorem dC_Lex_readNumber_91 : decode cC_Lex_readNumber 91 = .ok (.iconst (2), 1) := by decide +kernel
theorem dC_Lex_readNumber_92 : decode cC_Lex_readNumber 92 = .ok (.aload_n 0, 1) := by decide +kernel
theorem dC_Lex_readNumber_93 : decode cC_Lex_readNumber 93 = .ok (.getfield 9, 3) := by decide +kernel
theorem dC_Lex_readNumber_96 : decode cC_Lex_readNumber 96 = .ok (.iconst (2), 1) := by decide +kernel
theorem dC_Lex_readNumber_97 : decode cC_Lex_readNumber 97 = .ok (.iadd, 1) := by decide +kernel
theorem dC_Lex_readNumber_98 : decode cC_Lex_readNumber 98 = .ok (.invokevirtual 90, 3) := by decide +kernel
theorem dC_Lex_readNumber_101 : decode cC_Lex_readNumber 101 = .ok (.ireturn, 1) := by decide +kernel
theorem dC_Lex_readNumber_102 : decode cC_Lex_readNumber 102 = .ok (.iload_n 1, 1) := by decide +kernel
theorem dC_Lex_readNumber_103 : decode cC_Lex_readNumber 103 = .ok (.bipush (102), 2) := by decide +kernel
theorem dC_Lex_readNumber_105 : decode cC_Lex_readNumber 105 = .ok (.if_icmp .eq (9), 3) := by decide +kernel
theorem dC_Lex_readNumber_108 : decode cC_Lex_readNumber 108 = .ok (.iload_n 1, 1) := by decide +kernel
theorem dC_Lex_readNumber_109 : decode cC_Lex_readNumber 109 = .ok (.bipush (98), 2) := by decide +kernel
theorem dC_Lex_readNumber_111 : decode cC_Lex_readNumber 111 = .ok (.if_icmp .ne (9), 3) := by decide +kernel
theorem dC_Lex_readNumber_114 : decode cC_Lex_readNumber 114 = .ok (.aload_n 0, 1) := by decide +kernel
theorem dC_Lex_readNumber_115 : decode cC_Lex_readNumber 115 = .ok (.iload_n 1, 1) := by decide +kernel
theorem dC_Lex_readNumber_116 : decode cC_Lex_readNumber 116 = .ok (.invokevirtual 94, 3) := by decide +kernel
theorem dC_Lex_readNumber_119 : decode cC_Lex_readNumber 119 = .ok (.ireturn, 1) := by decide +kernel
theorem dC_Lex_readNumber_120 : decode cC_Lex_readNumber 120 = .ok (.aload_n 0, 1) := by decide +kernel
theorem dC_Lex_readNumber_121 : decode cC_Lex_readNumber 121 = .ok (.bipush (10), 2) := by decide +kernel
theorem dC_Lex_readNumber_123 : decode cC_Lex_readNumber 123 = .ok (.aload_n 0, 1) := by decide +kernel
theorem dC_Lex_readNumber_124 : decode cC_Lex_readNumber 124 = .ok (.getfield 9, 3) := by decide +kernel
theorem dC_Lex_readNumber_127 : decode cC_Lex_readNumber 127 = .ok (.invokevirtual 90, 3) := by decide +kernel
theorem dC_Lex_readNumber_130 : decode cC_Lex_readNumber 130 = .ok (.ireturn, 1) := by decide +kernel
abbrev cC_Lex_readQuoted : ByteArray := prog_6_method_9_code
def yC_Lex_readQuoted : MethodName := ⟨R_Lex, "readQuoted", "()Z"⟩
theorem dC_Lex_readQuoted_0 : decode cC_Lex_readQuoted 0 = .ok (.aload_n 0, 1) := by decide +kernel
theorem dC_Lex_readQuoted_1 : decode cC_Lex_readQuoted 1 = .ok (.dup, 1) := by decide +kernel
theorem dC_Lex_readQuoted_2 : decode cC_Lex_readQuoted 2 = .ok (.getfield 9, 3) := by decide +kernel
theorem dC_Lex_readQuoted_5 : decode cC_Lex_readQuoted 5 = .ok (.iconst (1), 1) := by decide +kernel
theorem dC_Lex_readQuoted_6 : decode cC_Lex_readQuoted 6 = .ok (.iadd, 1) := by decide +kernel
theorem dC_Lex_readQuoted_7 : decode cC_Lex_readQuoted 7 = .ok (.putfield 9, 3) := by decide +kernel
theorem dC_Lex_readQuoted_10 : decode cC_Lex_readQuoted 10 = .ok (.aload_n 0, 1) := by decide +kernel
theorem dC_Lex_readQuoted_11 : decode cC_Lex_readQuoted 11 = .ok (.bipush (39), 2) := by decide +kernel
theorem dC_Lex_readQuoted_13 : decode cC_Lex_readQuoted 13 = .ok (.invokevirtual 108, 3) := by decide +kernel
theorem dC_Lex_readQuoted_16 : decode cC_Lex_readQuoted 16 = .ok (.istore_n 1, 1) := by decide +kernel
theorem dC_Lex_readQuoted_17 : decode cC_Lex_readQuoted 17 = .ok (.iload_n 1, 1) := by decide +kernel
theorem dC_Lex_readQuoted_18 : decode cC_Lex_readQuoted 18 = .ok (.ifCond .lt (38), 3) := by decide +kernel
theorem dC_Lex_readQuoted_21 : decode cC_Lex_readQuoted 21 = .ok (.aload_n 0, 1) := by decide +kernel
theorem dC_Lex_readQuoted_22 : decode cC_Lex_readQuoted 22 = .ok (.getfield 15, 3) := by decide +kernel
theorem dC_Lex_readQuoted_25 : decode cC_Lex_readQuoted 25 = .ok (.aload_n 0, 1) := by decide +kernel
theorem dC_Lex_readQuoted_26 : decode cC_Lex_readQuoted 26 = .ok (.getfield 9, 3) := by decide +kernel
theorem dC_Lex_readQuoted_29 : decode cC_Lex_readQuoted 29 = .ok (.invokevirtual 52, 3) := by decide +kernel
theorem dC_Lex_readQuoted_32 : decode cC_Lex_readQuoted 32 = .ok (.bipush (39), 2) := by decide +kernel
theorem dC_Lex_readQuoted_34 : decode cC_Lex_readQuoted 34 = .ok (.if_icmp .ne (22), 3) := by decide +kernel
theorem dC_Lex_readQuoted_37 : decode cC_Lex_readQuoted 37 = .ok (.aload_n 0, 1) := by decide +kernel
theorem dC_Lex_readQuoted_38 : decode cC_Lex_readQuoted 38 = .ok (.getfield 15, 3) := by decide +kernel
theorem dC_Lex_readQuoted_41 : decode cC_Lex_readQuoted 41 = .ok (.aload_n 0, 1) := by decide +kernel
theorem dC_Lex_readQuoted_42 : decode cC_Lex_readQuoted 42 = .ok (.getfield 9, 3) := by decide +kernel
theorem dC_Lex_readQuoted_45 : decode cC_Lex_readQuoted 45 = .ok (.iconst (1), 1) := by decide +kernel
theorem dC_Lex_readQuoted_46 : decode cC_Lex_readQuoted 46 = .ok (.iadd, 1) := by decide +kernel
theorem dC_Lex_readQuoted_47 : decode cC_Lex_readQuoted 47 = .ok (.invokevirtual 52, 3) := by decide +kernel
theorem dC_Lex_readQuoted_50 : decode cC_Lex_readQuoted 50 = .ok (.invokestatic 66, 3) := by decide +kernel
theorem dC_Lex_readQuoted_53 : decode cC_Lex_readQuoted 53 = .ok (.ifCond .eq (5), 3) := by decide +kernel
theorem dC_Lex_readQuoted_56 : decode cC_Lex_readQuoted 56 = .ok (.iconst (0), 1) := by decide +kernel
theorem dC_Lex_readQuoted_57 : decode cC_Lex_readQuoted 57 = .ok (.ireturn, 1) := by decide +kernel
theorem dC_Lex_readQuoted_58 : decode cC_Lex_readQuoted 58 = .ok (.aload_n 0, 1) := by decide +kernel
theorem dC_Lex_readQuoted_59 : decode cC_Lex_readQuoted 59 = .ok (.dup, 1) := by decide +kernel
theorem dC_Lex_readQuoted_60 : decode cC_Lex_readQuoted 60 = .ok (.getfield 9, 3) := by decide +kernel
theorem dC_Lex_readQuoted_63 : decode cC_Lex_readQuoted 63 = .ok (.iconst (1), 1) := by decide +kernel
theorem dC_Lex_readQuoted_64 : decode cC_Lex_readQuoted 64 = .ok (.iadd, 1) := by decide +kernel
theorem dC_Lex_readQuoted_65 : decode cC_Lex_readQuoted 65 = .ok (.putfield 9, 3) := by decide +kernel
theorem dC_Lex_readQuoted_68 : decode cC_Lex_readQuoted 68 = .ok (.aload_n 0, 1) := by decide +kernel
theorem dC_Lex_readQuoted_69 : decode cC_Lex_readQuoted 69 = .ok (.getfield 23, 3) := by decide +kernel
theorem dC_Lex_readQuoted_72 : decode cC_Lex_readQuoted 72 = .ok (.iconst (3), 1) := by decide +kernel
theorem dC_Lex_readQuoted_73 : decode cC_Lex_readQuoted 73 = .ok (.iload_n 1, 1) := by decide +kernel
theorem dC_Lex_readQuoted_74 : decode cC_Lex_readQuoted 74 = .ok (.iconst (0), 1) := by decide +kernel
theorem dC_Lex_readQuoted_75 : decode cC_Lex_readQuoted 75 = .ok (.invokevirtual 48, 3) := by decide +kernel
theorem dC_Lex_readQuoted_78 : decode cC_Lex_readQuoted 78 = .ok (.iconst (1), 1) := by decide +kernel
theorem dC_Lex_readQuoted_79 : decode cC_Lex_readQuoted 79 = .ok (.ireturn, 1) := by decide +kernel
abbrev cC_Lex_readString : ByteArray := prog_6_method_10_code
def yC_Lex_readString : MethodName := ⟨R_Lex, "readString", "()Z"⟩
theorem dC_Lex_readString_0 : decode cC_Lex_readString 0 = .ok (.aload_n 0, 1) := by decide +kernel
theorem dC_Lex_readString_1 : decode cC_Lex_readString 1 = .ok (.getfield 27, 3) := by decide +kernel
theorem dC_Lex_readString_4 : decode cC_Lex_readString 4 = .ok (.getfield 41, 3) := by decide +kernel
theorem dC_Lex_readString_7 : decode cC_Lex_readString 7 = .ok (.istore_n 1, 1) := by decide +kernel
theorem dC_Lex_readString_8 : decode cC_Lex_readString 8 = .ok (.aload_n 0, 1) := by decide +kernel
theorem dC_Lex_readString_9 : decode cC_Lex_readString 9 = .ok (.dup, 1) := by decide +kernel
theorem dC_Lex_readString_10 : decode cC_Lex_readString 10 = .ok (.getfield 9, 3) := by decide +kernel
theorem dC_Lex_readString_13 : decode cC_Lex_readString 13 = .ok (.iconst (1), 1) := by decide +kernel
theorem dC_Lex_readString_14 : decode cC_Lex_readString 14 = .ok (.iadd, 1) := by decide +kernel
theorem dC_Lex_readString_15 : decode cC_Lex_readString 15 = .ok (.putfield 9, 3) := by decide +kernel
theorem dC_Lex_readString_18 : decode cC_Lex_readString 18 = .ok (.aload_n 0, 1) := by decide +kernel
theorem dC_Lex_readString_19 : decode cC_Lex_readString 19 = .ok (.getfield 15, 3) := by decide +kernel
theorem dC_Lex_readString_22 : decode cC_Lex_readString 22 = .ok (.getfield 41, 3) := by decide +kernel
theorem dC_Lex_readString_25 : decode cC_Lex_readString 25 = .ok (.istore_n 2, 1) := by decide +kernel
theorem dC_Lex_readString_26 : decode cC_Lex_readString 26 = .ok (.iload_n 2, 1) := by decide +kernel
theorem dC_Lex_readString_27 : decode cC_Lex_readString 27 = .ok (.ifCond .le (60), 3) := by decide +kernel
theorem dC_Lex_readString_30 : decode cC_Lex_readString 30 = .ok (.aload_n 0, 1) := by decide +kernel
theorem dC_Lex_readString_31 : decode cC_Lex_readString 31 = .ok (.getfield 9, 3) := by decide +kernel
theorem dC_Lex_readString_34 : decode cC_Lex_readString 34 = .ok (.aload_n 0, 1) := by decide +kernel
theorem dC_Lex_readString_35 : decode cC_Lex_readString 35 = .ok (.getfield 15, 3) := by decide +kernel
theorem dC_Lex_readString_38 : decode cC_Lex_readString 38 = .ok (.getfield 41, 3) := by decide +kernel
theorem dC_Lex_readString_41 : decode cC_Lex_readString 41 = .ok (.if_icmp .ge (46), 3) := by decide +kernel
theorem dC_Lex_readString_44 : decode cC_Lex_readString 44 = .ok (.aload_n 0, 1) := by decide +kernel
theorem dC_Lex_readString_45 : decode cC_Lex_readString 45 = .ok (.getfield 15, 3) := by decide +kernel
theorem dC_Lex_readString_48 : decode cC_Lex_readString 48 = .ok (.aload_n 0, 1) := by decide +kernel
theorem dC_Lex_readString_49 : decode cC_Lex_readString 49 = .ok (.getfield 9, 3) := by decide +kernel
theorem dC_Lex_readString_52 : decode cC_Lex_readString 52 = .ok (.invokevirtual 52, 3) := by decide +kernel
theorem dC_Lex_readString_55 : decode cC_Lex_readString 55 = .ok (.bipush (34), 2) := by decide +kernel
theorem dC_Lex_readString_57 : decode cC_Lex_readString 57 = .ok (.if_icmp .eq (30), 3) := by decide +kernel
theorem dC_Lex_readString_60 : decode cC_Lex_readString 60 = .ok (.aload_n 0, 1) := by decide +kernel
theorem dC_Lex_readString_61 : decode cC_Lex_readString 61 = .ok (.bipush (34), 2) := by decide +kernel
theorem dC_Lex_readString_63 : decode cC_Lex_readString 63 = .ok (.invokevirtual 108, 3) := by decide +kernel
theorem dC_Lex_readString_66 : decode cC_Lex_readString 66 = .ok (.istore_n 3, 1) := by decide +kernel
theorem dC_Lex_readString_67 : decode cC_Lex_readString 67 = .ok (.iload_n 3, 1) := by decide +kernel
theorem dC_Lex_readString_68 : decode cC_Lex_readString 68 = .ok (.ifCond .ge (5), 3) := by decide +kernel
theorem dC_Lex_readString_71 : decode cC_Lex_readString 71 = .ok (.iconst (0), 1) := by decide +kernel
theorem dC_Lex_readString_72 : decode cC_Lex_readString 72 = .ok (.ireturn, 1) := by decide +kernel
theorem dC_Lex_readString_73 : decode cC_Lex_readString 73 = .ok (.aload_n 0, 1) := by decide +kernel
theorem dC_Lex_readString_74 : decode cC_Lex_readString 74 = .ok (.getfield 27, 3) := by decide +kernel
theorem dC_Lex_readString_77 : decode cC_Lex_readString 77 = .ok (.iload_n 3, 1) := by decide +kernel
theorem dC_Lex_readString_78 : decode cC_Lex_readString 78 = .ok (.invokevirtual 111, 3) := by decide +kernel
theorem dC_Lex_readString_81 : decode cC_Lex_readString 81 = .ok (.iinc 2 (-1), 3) := by decide +kernel
theorem dC_Lex_readString_84 : decode cC_Lex_readString 84 = .ok (.goto (-58), 3) := by decide +kernel
theorem dC_Lex_readString_87 : decode cC_Lex_readString 87 = .ok (.aload_n 0, 1) := by decide +kernel
theorem dC_Lex_readString_88 : decode cC_Lex_readString 88 = .ok (.getfield 15, 3) := by decide +kernel
theorem dC_Lex_readString_91 : decode cC_Lex_readString 91 = .ok (.aload_n 0, 1) := by decide +kernel
theorem dC_Lex_readString_92 : decode cC_Lex_readString 92 = .ok (.getfield 9, 3) := by decide +kernel
theorem dC_Lex_readString_95 : decode cC_Lex_readString 95 = .ok (.invokevirtual 52, 3) := by decide +kernel
theorem dC_Lex_readString_98 : decode cC_Lex_readString 98 = .ok (.bipush (34), 2) := by decide +kernel
theorem dC_Lex_readString_100 : decode cC_Lex_readString 100 = .ok (.if_icmp .eq (5), 3) := by decide +kernel
theorem dC_Lex_readString_103 : decode cC_Lex_readString 103 = .ok (.iconst (0), 1) := by decide +kernel
theorem dC_Lex_readString_104 : decode cC_Lex_readString 104 = .ok (.ireturn, 1) := by decide +kernel
theorem dC_Lex_readString_105 : decode cC_Lex_readString 105 = .ok (.aload_n 0, 1) := by decide +kernel
theorem dC_Lex_readString_106 : decode cC_Lex_readString 106 = .ok (.dup, 1) := by decide +kernel
theorem dC_Lex_readString_107 : decode cC_Lex_readString 107 = .ok (.getfield 9, 3) := by decide +kernel
theorem dC_Lex_readString_110 : decode cC_Lex_readString 110 = .ok (.iconst (1), 1) := by decide +kernel
theorem dC_Lex_readString_111 : decode cC_Lex_readString 111 = .ok (.iadd, 1) := by decide +kernel
theorem dC_Lex_readString_112 : decode cC_Lex_readString 112 = .ok (.putfield 9, 3) := by decide +kernel
theorem dC_Lex_readString_115 : decode cC_Lex_readString 115 = .ok (.aload_n 0, 1) := by decide +kernel
theorem dC_Lex_readString_116 : decode cC_Lex_readString 116 = .ok (.getfield 23, 3) := by decide +kernel
theorem dC_Lex_readString_119 : decode cC_Lex_readString 119 = .ok (.bipush (6), 2) := by decide +kernel
theorem dC_Lex_readString_121 : decode cC_Lex_readString 121 = .ok (.iload_n 1, 1) := by decide +kernel
theorem dC_Lex_readString_122 : decode cC_Lex_readString 122 = .ok (.aload_n 0, 1) := by decide +kernel
theorem dC_Lex_readString_123 : decode cC_Lex_readString 123 = .ok (.getfield 27, 3) := by decide +kernel
theorem dC_Lex_readString_126 : decode cC_Lex_readString 126 = .ok (.getfield 41, 3) := by decide +kernel
theorem dC_Lex_readString_129 : decode cC_Lex_readString 129 = .ok (.iload_n 1, 1) := by decide +kernel
theorem dC_Lex_readString_130 : decode cC_Lex_readString 130 = .ok (.isub, 1) := by decide +kernel
theorem dC_Lex_readString_131 : decode cC_Lex_readString 131 = .ok (.invokevirtual 48, 3) := by decide +kernel
theorem dC_Lex_readString_134 : decode cC_Lex_readString 134 = .ok (.aload_n 0, 1) := by decide +kernel
theorem dC_Lex_readString_135 : decode cC_Lex_readString 135 = .ok (.getfield 27, 3) := by decide +kernel
theorem dC_Lex_readString_138 : decode cC_Lex_readString 138 = .ok (.iconst (0), 1) := by decide +kernel
theorem dC_Lex_readString_139 : decode cC_Lex_readString 139 = .ok (.invokevirtual 111, 3) := by decide +kernel
theorem dC_Lex_readString_142 : decode cC_Lex_readString 142 = .ok (.iconst (1), 1) := by decide +kernel
theorem dC_Lex_readString_143 : decode cC_Lex_readString 143 = .ok (.ireturn, 1) := by decide +kernel
abbrev cC_Lex_readSign : ByteArray := prog_6_method_12_code
def yC_Lex_readSign : MethodName := ⟨R_Lex, "readSign", "(I)Z"⟩
theorem dC_Lex_readSign_0 : decode cC_Lex_readSign 0 = .ok (.iload_n 1, 1) := by decide +kernel
theorem dC_Lex_readSign_1 : decode cC_Lex_readSign 1 = .ok (.lookupswitch (224) #[(10, 139), (37, 161), (38, 161), (40, 161), (41, 161), (42, 161), (43, 161), (44, 161), (45, 161), (47, 161), (58, 161), (60, 183), (62, 183), (94, 161), (124, 161), (126, 161)], 139) := by decide +kernel
theorem dC_Lex_readSign_140 : decode cC_Lex_readSign 140 = .ok (.aload_n 0, 1) := by decide +kernel
theorem dC_Lex_readSign_141 : decode cC_Lex_readSign 141 = .ok (.getfield 23, 3) := by decide +kernel
theorem dC_Lex_readSign_144 : decode cC_Lex_readSign 144 = .ok (.iconst (0), 1) := by decide +kernel
theorem dC_Lex_readSign_145 : decode cC_Lex_readSign 145 = .ok (.iconst (0), 1) := by decide +kernel
theorem dC_Lex_readSign_146 : decode cC_Lex_readSign 146 = .ok (.iconst (0), 1) := by decide +kernel
theorem dC_Lex_readSign_147 : decode cC_Lex_readSign 147 = .ok (.invokevirtual 48, 3) := by decide +kernel
theorem dC_Lex_readSign_150 : decode cC_Lex_readSign 150 = .ok (.aload_n 0, 1) := by decide +kernel
theorem dC_Lex_readSign_151 : decode cC_Lex_readSign 151 = .ok (.dup, 1) := by decide +kernel
theorem dC_Lex_readSign_152 : decode cC_Lex_readSign 152 = .ok (.getfield 9, 3) := by decide +kernel
theorem dC_Lex_readSign_155 : decode cC_Lex_readSign 155 = .ok (.iconst (1), 1) := by decide +kernel
theorem dC_Lex_readSign_156 : decode cC_Lex_readSign 156 = .ok (.iadd, 1) := by decide +kernel
theorem dC_Lex_readSign_157 : decode cC_Lex_readSign 157 = .ok (.putfield 9, 3) := by decide +kernel
theorem dC_Lex_readSign_160 : decode cC_Lex_readSign 160 = .ok (.iconst (1), 1) := by decide +kernel
theorem dC_Lex_readSign_161 : decode cC_Lex_readSign 161 = .ok (.ireturn, 1) := by decide +kernel
theorem dC_Lex_readSign_162 : decode cC_Lex_readSign 162 = .ok (.aload_n 0, 1) := by decide +kernel
theorem dC_Lex_readSign_163 : decode cC_Lex_readSign 163 = .ok (.getfield 23, 3) := by decide +kernel
theorem dC_Lex_readSign_166 : decode cC_Lex_readSign 166 = .ok (.iload_n 1, 1) := by decide +kernel
theorem dC_Lex_readSign_167 : decode cC_Lex_readSign 167 = .ok (.iconst (0), 1) := by decide +kernel
theorem dC_Lex_readSign_168 : decode cC_Lex_readSign 168 = .ok (.iconst (0), 1) := by decide +kernel
theorem dC_Lex_readSign_169 : decode cC_Lex_readSign 169 = .ok (.invokevirtual 48, 3) := by decide +kernel
theorem dC_Lex_readSign_172 : decode cC_Lex_readSign 172 = .ok (.aload_n 0, 1) := by decide +kernel
theorem dC_Lex_readSign_173 : decode cC_Lex_readSign 173 = .ok (.dup, 1) := by decide +kernel
theorem dC_Lex_readSign_174 : decode cC_Lex_readSign 174 = .ok (.getfield 9, 3) := by decide +kernel
theorem dC_Lex_readSign_177 : decode cC_Lex_readSign 177 = .ok (.iconst (1), 1) := by decide +kernel
theorem dC_Lex_readSign_178 : decode cC_Lex_readSign 178 = .ok (.iadd, 1) := by decide +kernel
theorem dC_Lex_readSign_179 : decode cC_Lex_readSign 179 = .ok (.putfield 9, 3) := by decide +kernel
theorem dC_Lex_readSign_182 : decode cC_Lex_readSign 182 = .ok (.iconst (1), 1) := by decide +kernel
theorem dC_Lex_readSign_183 : decode cC_Lex_readSign 183 = .ok (.ireturn, 1) := by decide +kernel
theorem dC_Lex_readSign_184 : decode cC_Lex_readSign 184 = .ok (.aload_n 0, 1) := by decide +kernel
theorem dC_Lex_readSign_185 : decode cC_Lex_readSign 185 = .ok (.getfield 15, 3) := by decide +kernel
theorem dC_Lex_readSign_188 : decode cC_Lex_readSign 188 = .ok (.aload_n 0, 1) := by decide +kernel
theorem dC_Lex_readSign_189 : decode cC_Lex_readSign 189 = .ok (.getfield 9, 3) := by decide +kernel
theorem dC_Lex_readSign_192 : decode cC_Lex_readSign 192 = .ok (.iconst (1), 1) := by decide +kernel
theorem dC_Lex_readSign_193 : decode cC_Lex_readSign 193 = .ok (.iadd, 1) := by decide +kernel
theorem dC_Lex_readSign_194 : decode cC_Lex_readSign 194 = .ok (.invokevirtual 52, 3) := by decide +kernel
theorem dC_Lex_readSign_197 : decode cC_Lex_readSign 197 = .ok (.iload_n 1, 1) := by decide +kernel
theorem dC_Lex_readSign_198 : decode cC_Lex_readSign 198 = .ok (.if_icmp .eq (5), 3) := by decide +kernel
theorem dC_Lex_readSign_201 : decode cC_Lex_readSign 201 = .ok (.iconst (0), 1) := by decide +kernel
theorem dC_Lex_readSign_202 : decode cC_Lex_readSign 202 = .ok (.ireturn, 1) := by decide +kernel
theorem dC_Lex_readSign_203 : decode cC_Lex_readSign 203 = .ok (.aload_n 0, 1) := by decide +kernel
theorem dC_Lex_readSign_204 : decode cC_Lex_readSign 204 = .ok (.getfield 23, 3) := by decide +kernel
theorem dC_Lex_readSign_207 : decode cC_Lex_readSign 207 = .ok (.iload_n 1, 1) := by decide +kernel
theorem dC_Lex_readSign_208 : decode cC_Lex_readSign 208 = .ok (.iconst (0), 1) := by decide +kernel
theorem dC_Lex_readSign_209 : decode cC_Lex_readSign 209 = .ok (.iconst (0), 1) := by decide +kernel
theorem dC_Lex_readSign_210 : decode cC_Lex_readSign 210 = .ok (.invokevirtual 48, 3) := by decide +kernel
theorem dC_Lex_readSign_213 : decode cC_Lex_readSign 213 = .ok (.aload_n 0, 1) := by decide +kernel
theorem dC_Lex_readSign_214 : decode cC_Lex_readSign 214 = .ok (.dup, 1) := by decide +kernel
theorem dC_Lex_readSign_215 : decode cC_Lex_readSign 215 = .ok (.getfield 9, 3) := by decide +kernel
theorem dC_Lex_readSign_218 : decode cC_Lex_readSign 218 = .ok (.iconst (2), 1) := by decide +kernel
theorem dC_Lex_readSign_219 : decode cC_Lex_readSign 219 = .ok (.iadd, 1) := by decide +kernel
theorem dC_Lex_readSign_220 : decode cC_Lex_readSign 220 = .ok (.putfield 9, 3) := by decide +kernel
theorem dC_Lex_readSign_223 : decode cC_Lex_readSign 223 = .ok (.iconst (1), 1) := by decide +kernel
theorem dC_Lex_readSign_224 : decode cC_Lex_readSign 224 = .ok (.ireturn, 1) := by decide +kernel
theorem dC_Lex_readSign_225 : decode cC_Lex_readSign 225 = .ok (.iconst (0), 1) := by decide +kernel
theorem dC_Lex_readSign_226 : decode cC_Lex_readSign 226 = .ok (.ireturn, 1) := by decide +kernel
abbrev cC_Lex_readToken : ByteArray := prog_6_method_3_code
def yC_Lex_readToken : MethodName := ⟨R_Lex, "readToken", "()Z"⟩
theorem dC_Lex_readToken_0 : decode cC_Lex_readToken 0 = .ok (.aload_n 0, 1) := by decide +kernel
theorem dC_Lex_readToken_1 : decode cC_Lex_readToken 1 = .ok (.getfield 15, 3) := by decide +kernel
theorem dC_Lex_readToken_4 : decode cC_Lex_readToken 4 = .ok (.aload_n 0, 1) := by decide +kernel
theorem dC_Lex_readToken_5 : decode cC_Lex_readToken 5 = .ok (.getfield 9, 3) := by decide +kernel
theorem dC_Lex_readToken_8 : decode cC_Lex_readToken 8 = .ok (.invokevirtual 52, 3) := by decide +kernel
theorem dC_Lex_readToken_11 : decode cC_Lex_readToken 11 = .ok (.istore_n 1, 1) := by decide +kernel
theorem dC_Lex_readToken_12 : decode cC_Lex_readToken 12 = .ok (.iload_n 1, 1) := by decide +kernel
theorem dC_Lex_readToken_13 : decode cC_Lex_readToken 13 = .ok (.bipush (32), 2) := by decide +kernel
theorem dC_Lex_readToken_15 : decode cC_Lex_readToken 15 = .ok (.if_icmp .eq (9), 3) := by decide +kernel
theorem dC_Lex_readToken_18 : decode cC_Lex_readToken 18 = .ok (.iload_n 1, 1) := by decide +kernel
theorem dC_Lex_readToken_19 : decode cC_Lex_readToken 19 = .ok (.bipush (9), 2) := by decide +kernel
theorem dC_Lex_readToken_21 : decode cC_Lex_readToken 21 = .ok (.if_icmp .ne (15), 3) := by decide +kernel
theorem dC_Lex_readToken_24 : decode cC_Lex_readToken 24 = .ok (.aload_n 0, 1) := by decide +kernel
theorem dC_Lex_readToken_25 : decode cC_Lex_readToken 25 = .ok (.dup, 1) := by decide +kernel
theorem dC_Lex_readToken_26 : decode cC_Lex_readToken 26 = .ok (.getfield 9, 3) := by decide +kernel
theorem dC_Lex_readToken_29 : decode cC_Lex_readToken 29 = .ok (.iconst (1), 1) := by decide +kernel
theorem dC_Lex_readToken_30 : decode cC_Lex_readToken 30 = .ok (.iadd, 1) := by decide +kernel
theorem dC_Lex_readToken_31 : decode cC_Lex_readToken 31 = .ok (.putfield 9, 3) := by decide +kernel
theorem dC_Lex_readToken_34 : decode cC_Lex_readToken 34 = .ok (.iconst (1), 1) := by decide +kernel
theorem dC_Lex_readToken_35 : decode cC_Lex_readToken 35 = .ok (.ireturn, 1) := by decide +kernel
theorem dC_Lex_readToken_36 : decode cC_Lex_readToken 36 = .ok (.iload_n 1, 1) := by decide +kernel
theorem dC_Lex_readToken_37 : decode cC_Lex_readToken 37 = .ok (.bipush (35), 2) := by decide +kernel
theorem dC_Lex_readToken_39 : decode cC_Lex_readToken 39 = .ok (.if_icmp .ne (9), 3) := by decide +kernel
theorem dC_Lex_readToken_42 : decode cC_Lex_readToken 42 = .ok (.aload_n 0, 1) := by decide +kernel
theorem dC_Lex_readToken_43 : decode cC_Lex_readToken 43 = .ok (.invokevirtual 56, 3) := by decide +kernel
theorem dC_Lex_readToken_46 : decode cC_Lex_readToken 46 = .ok (.iconst (1), 1) := by decide +kernel
theorem dC_Lex_readToken_47 : decode cC_Lex_readToken 47 = .ok (.ireturn, 1) := by decide +kernel
theorem dC_Lex_readToken_48 : decode cC_Lex_readToken 48 = .ok (.iload_n 1, 1) := by decide +kernel
theorem dC_Lex_readToken_49 : decode cC_Lex_readToken 49 = .ok (.invokestatic 59, 3) := by decide +kernel
theorem dC_Lex_readToken_52 : decode cC_Lex_readToken 52 = .ok (.ifCond .eq (8), 3) := by decide +kernel
theorem dC_Lex_readToken_55 : decode cC_Lex_readToken 55 = .ok (.aload_n 0, 1) := by decide +kernel
theorem dC_Lex_readToken_56 : decode cC_Lex_readToken 56 = .ok (.invokevirtual 63, 3) := by decide +kernel
theorem dC_Lex_readToken_59 : decode cC_Lex_readToken 59 = .ok (.ireturn, 1) := by decide +kernel
theorem dC_Lex_readToken_60 : decode cC_Lex_readToken 60 = .ok (.iload_n 1, 1) := by decide +kernel
theorem dC_Lex_readToken_61 : decode cC_Lex_readToken 61 = .ok (.invokestatic 66, 3) := by decide +kernel
theorem dC_Lex_readToken_64 : decode cC_Lex_readToken 64 = .ok (.ifCond .eq (8), 3) := by decide +kernel
theorem dC_Lex_readToken_67 : decode cC_Lex_readToken 67 = .ok (.aload_n 0, 1) := by decide +kernel
theorem dC_Lex_readToken_68 : decode cC_Lex_readToken 68 = .ok (.invokevirtual 69, 3) := by decide +kernel
theorem dC_Lex_readToken_71 : decode cC_Lex_readToken 71 = .ok (.ireturn, 1) := by decide +kernel
theorem dC_Lex_readToken_72 : decode cC_Lex_readToken 72 = .ok (.iload_n 1, 1) := by decide +kernel
theorem dC_Lex_readToken_73 : decode cC_Lex_readToken 73 = .ok (.bipush (39), 2) := by decide +kernel
theorem dC_Lex_readToken_75 : decode cC_Lex_readToken 75 = .ok (.if_icmp .ne (8), 3) := by decide +kernel
theorem dC_Lex_readToken_78 : decode cC_Lex_readToken 78 = .ok (.aload_n 0, 1) := by decide +kernel
theorem dC_Lex_readToken_79 : decode cC_Lex_readToken 79 = .ok (.invokevirtual 72, 3) := by decide +kernel
theorem dC_Lex_readToken_82 : decode cC_Lex_readToken 82 = .ok (.ireturn, 1) := by decide +kernel
theorem dC_Lex_readToken_83 : decode cC_Lex_readToken 83 = .ok (.iload_n 1, 1) := by decide +kernel
theorem dC_Lex_readToken_84 : decode cC_Lex_readToken 84 = .ok (.bipush (34), 2) := by decide +kernel
theorem dC_Lex_readToken_86 : decode cC_Lex_readToken 86 = .ok (.if_icmp .ne (10), 3) := by decide +kernel
theorem dC_Lex_readToken_89 : decode cC_Lex_readToken 89 = .ok (.aload_n 0, 1) := by decide +kernel
theorem dC_Lex_readToken_90 : decode cC_Lex_readToken 90 = .ok (.invokevirtual 75, 3) := by decide +kernel
theorem dC_Lex_readToken_93 : decode cC_Lex_readToken 93 = .ok (.goto (8), 3) := by decide +kernel
theorem dC_Lex_readToken_96 : decode cC_Lex_readToken 96 = .ok (.aload_n 0, 1) := by decide +kernel
theorem dC_Lex_readToken_97 : decode cC_Lex_readToken 97 = .ok (.iload_n 1, 1) := by decide +kernel
theorem dC_Lex_readToken_98 : decode cC_Lex_readToken 98 = .ok (.invokevirtual 78, 3) := by decide +kernel
theorem dC_Lex_readToken_101 : decode cC_Lex_readToken 101 = .ok (.ireturn, 1) := by decide +kernel
abbrev cC_Lex_readAll : ByteArray := prog_6_method_2_code
def yC_Lex_readAll : MethodName := ⟨R_Lex, "readAll", "()V"⟩
theorem dC_Lex_readAll_0 : decode cC_Lex_readAll 0 = .ok (.aload_n 0, 1) := by decide +kernel
theorem dC_Lex_readAll_1 : decode cC_Lex_readAll 1 = .ok (.getfield 23, 3) := by decide +kernel
theorem dC_Lex_readAll_4 : decode cC_Lex_readAll 4 = .ok (.invokevirtual 30, 3) := by decide +kernel
theorem dC_Lex_readAll_7 : decode cC_Lex_readAll 7 = .ok (.aload_n 0, 1) := by decide +kernel
theorem dC_Lex_readAll_8 : decode cC_Lex_readAll 8 = .ok (.getfield 27, 3) := by decide +kernel
theorem dC_Lex_readAll_11 : decode cC_Lex_readAll 11 = .ok (.iconst (0), 1) := by decide +kernel
theorem dC_Lex_readAll_12 : decode cC_Lex_readAll 12 = .ok (.invokevirtual 35, 3) := by decide +kernel
theorem dC_Lex_readAll_15 : decode cC_Lex_readAll 15 = .ok (.aload_n 0, 1) := by decide +kernel
theorem dC_Lex_readAll_16 : decode cC_Lex_readAll 16 = .ok (.iconst (0), 1) := by decide +kernel
theorem dC_Lex_readAll_17 : decode cC_Lex_readAll 17 = .ok (.putfield 9, 3) := by decide +kernel
theorem dC_Lex_readAll_20 : decode cC_Lex_readAll 20 = .ok (.iconst (1), 1) := by decide +kernel
theorem dC_Lex_readAll_21 : decode cC_Lex_readAll 21 = .ok (.istore_n 1, 1) := by decide +kernel
theorem dC_Lex_readAll_22 : decode cC_Lex_readAll 22 = .ok (.aload_n 0, 1) := by decide +kernel
theorem dC_Lex_readAll_23 : decode cC_Lex_readAll 23 = .ok (.getfield 15, 3) := by decide +kernel
theorem dC_Lex_readAll_26 : decode cC_Lex_readAll 26 = .ok (.getfield 41, 3) := by decide +kernel
theorem dC_Lex_readAll_29 : decode cC_Lex_readAll 29 = .ok (.istore_n 2, 1) := by decide +kernel
theorem dC_Lex_readAll_30 : decode cC_Lex_readAll 30 = .ok (.iload_n 2, 1) := by decide +kernel
theorem dC_Lex_readAll_31 : decode cC_Lex_readAll 31 = .ok (.ifCond .le (32), 3) := by decide +kernel
theorem dC_Lex_readAll_34 : decode cC_Lex_readAll 34 = .ok (.iload_n 1, 1) := by decide +kernel
theorem dC_Lex_readAll_35 : decode cC_Lex_readAll 35 = .ok (.ifCond .eq (28), 3) := by decide +kernel
theorem dC_Lex_readAll_38 : decode cC_Lex_readAll 38 = .ok (.aload_n 0, 1) := by decide +kernel
theorem dC_Lex_readAll_39 : decode cC_Lex_readAll 39 = .ok (.getfield 9, 3) := by decide +kernel
theorem dC_Lex_readAll_42 : decode cC_Lex_readAll 42 = .ok (.aload_n 0, 1) := by decide +kernel
theorem dC_Lex_readAll_43 : decode cC_Lex_readAll 43 = .ok (.getfield 15, 3) := by decide +kernel
theorem dC_Lex_readAll_46 : decode cC_Lex_readAll 46 = .ok (.getfield 41, 3) := by decide +kernel
theorem dC_Lex_readAll_49 : decode cC_Lex_readAll 49 = .ok (.if_icmp .ge (14), 3) := by decide +kernel
theorem dC_Lex_readAll_52 : decode cC_Lex_readAll 52 = .ok (.aload_n 0, 1) := by decide +kernel
theorem dC_Lex_readAll_53 : decode cC_Lex_readAll 53 = .ok (.invokevirtual 44, 3) := by decide +kernel
theorem dC_Lex_readAll_56 : decode cC_Lex_readAll 56 = .ok (.istore_n 1, 1) := by decide +kernel
theorem dC_Lex_readAll_57 : decode cC_Lex_readAll 57 = .ok (.iinc 2 (-1), 3) := by decide +kernel
theorem dC_Lex_readAll_60 : decode cC_Lex_readAll 60 = .ok (.goto (-30), 3) := by decide +kernel
theorem dC_Lex_readAll_63 : decode cC_Lex_readAll 63 = .ok (.iload_n 1, 1) := by decide +kernel
theorem dC_Lex_readAll_64 : decode cC_Lex_readAll 64 = .ok (.ifCond .ne (13), 3) := by decide +kernel
theorem dC_Lex_readAll_67 : decode cC_Lex_readAll 67 = .ok (.aload_n 0, 1) := by decide +kernel
theorem dC_Lex_readAll_68 : decode cC_Lex_readAll 68 = .ok (.getfield 23, 3) := by decide +kernel
theorem dC_Lex_readAll_71 : decode cC_Lex_readAll 71 = .ok (.iconst (1), 1) := by decide +kernel
theorem dC_Lex_readAll_72 : decode cC_Lex_readAll 72 = .ok (.iconst (0), 1) := by decide +kernel
theorem dC_Lex_readAll_73 : decode cC_Lex_readAll 73 = .ok (.iconst (0), 1) := by decide +kernel
theorem dC_Lex_readAll_74 : decode cC_Lex_readAll 74 = .ok (.invokevirtual 48, 3) := by decide +kernel
theorem dC_Lex_readAll_77 : decode cC_Lex_readAll 77 = .ok (.aload_n 0, 1) := by decide +kernel
theorem dC_Lex_readAll_78 : decode cC_Lex_readAll 78 = .ok (.getfield 23, 3) := by decide +kernel
theorem dC_Lex_readAll_81 : decode cC_Lex_readAll 81 = .ok (.iconst (0), 1) := by decide +kernel
theorem dC_Lex_readAll_82 : decode cC_Lex_readAll 82 = .ok (.iconst (0), 1) := by decide +kernel
theorem dC_Lex_readAll_83 : decode cC_Lex_readAll 83 = .ok (.iconst (0), 1) := by decide +kernel
theorem dC_Lex_readAll_84 : decode cC_Lex_readAll 84 = .ok (.invokevirtual 48, 3) := by decide +kernel
theorem dC_Lex_readAll_87 : decode cC_Lex_readAll 87 = .ok (.return_, 1) := by decide +kernel
theorem gC_Lex_30 : GoodIn lw_gd (wsV R_Lex 30 R_Tok yC_Tok_empty (.code yC_Tok_empty cC_Tok_empty 1 none :: lw_gd)) := lw_GV qc_1007 qc_1004 qc_1005 qc_1006 qc_13
theorem gC_Lex_35 : GoodIn lw_gd (wsV R_Lex 35 R_Row yC_Row_cut (.code yC_Row_cut cC_Row_cut 2 none :: lw_gd)) := lw_GV qc_182 qc_1008 qc_180 qc_181 qc_2
theorem gC_Lex_44 : GoodIn lw_gd (wsV R_Lex 44 R_Lex yC_Lex_readToken (.code yC_Lex_readToken cC_Lex_readToken 2 (some .boolean) :: lw_gd)) := lw_GV qc_1012 qc_1009 qc_1011 qsc_12 qc_19
theorem gC_Lex_48 : GoodIn lw_gd (wsV R_Lex 48 R_Tok yC_Tok_add (.code yC_Tok_add cC_Tok_add 5 none :: lw_gd)) := lw_GV qc_1042 qc_1039 qc_1040 qc_1041 qc_13
theorem gC_Lex_52 : GoodIn lw_gd (wsV R_Lex 52 R_Row yC_Row_get (.code yC_Row_get cC_Row_get 2 (some .int) :: lw_gd)) := lw_GV qc_170 qc_1013 qc_168 qc_169 qc_2
theorem gC_Lex_56 : GoodIn lw_gd (wsV R_Lex 56 R_Lex yC_Lex_skipRemark (.code yC_Lex_skipRemark cC_Lex_skipRemark 3 none :: lw_gd)) := lw_GV qc_1017 qc_1014 qc_1016 qsc_13 qc_19
theorem gC_Lex_63 : GoodIn lw_gd (wsV R_Lex 63 R_Lex yC_Lex_readNumber (.code yC_Lex_readNumber cC_Lex_readNumber 2 (some .boolean) :: lw_gd)) := lw_GV qc_1024 qc_1021 qc_1023 qsc_14 qc_19
theorem gC_Lex_69 : GoodIn lw_gd (wsV R_Lex 69 R_Lex yC_Lex_readName (.code yC_Lex_readName cC_Lex_readName 4 (some .boolean) :: lw_gd)) := lw_GV qc_1051 qc_1048 qc_1050 qsc_17 qc_19
theorem gC_Lex_72 : GoodIn lw_gd (wsV R_Lex 72 R_Lex yC_Lex_readQuoted (.code yC_Lex_readQuoted cC_Lex_readQuoted 2 (some .boolean) :: lw_gd)) := lw_GV qc_1057 qc_1054 qc_1056 qsc_18 qc_19
theorem gC_Lex_75 : GoodIn lw_gd (wsV R_Lex 75 R_Lex yC_Lex_readString (.code yC_Lex_readString cC_Lex_readString 4 (some .boolean) :: lw_gd)) := lw_GV qc_1065 qc_1062 qc_1064 qsc_20 qc_19
theorem gC_Lex_78 : GoodIn lw_gd (wsV R_Lex 78 R_Lex yC_Lex_readSign (.code yC_Lex_readSign cC_Lex_readSign 2 (some .boolean) :: lw_gd)) := lw_GV qc_1070 qc_1067 qc_1069 qsc_21 qc_19
theorem gC_Lex_81 : GoodIn lw_gd (wsV R_Lex 81 R_Nam yC_Nam_put (.code yC_Nam_put cC_Nam_put 2 none :: lw_gd)) := lw_GV qc_158 qc_1052 qc_156 qc_157 qc_3
theorem gC_Lex_86 : GoodIn lw_gd (wsV R_Lex 86 R_Nam yC_Nam_finish (.code yC_Nam_finish cC_Nam_finish 4 (some .int) :: lw_gd)) := lw_GV qc_162 qc_1053 qc_160 qc_161 qc_3
theorem gC_Lex_90 : GoodIn lw_gd (wsV R_Lex 90 R_Lex yC_Lex_readDigits (.code yC_Lex_readDigits cC_Lex_readDigits 7 (some .boolean) :: lw_gd)) := lw_GV qc_1028 qc_1025 qc_1027 qsc_15 qc_19
theorem gC_Lex_94 : GoodIn lw_gd (wsV R_Lex 94 R_Lex yC_Lex_readNear (.code yC_Lex_readNear cC_Lex_readNear 2 (some .boolean) :: lw_gd)) := lw_GV qc_1047 qc_1044 qc_1046 qsc_16 qc_19
theorem gC_Lex_108 : GoodIn lw_gd (wsV R_Lex 108 R_Lex yC_Lex_readCharacter (.code yC_Lex_readCharacter cC_Lex_readCharacter 4 (some .int) :: lw_gd)) := lw_GV qc_1061 qc_1058 qc_1060 qsc_19 qc_19
theorem gC_Lex_111 : GoodIn lw_gd (wsV R_Lex 111 R_Row yC_Row_add (.code yC_Row_add cC_Row_add 2 none :: lw_gd)) := lw_GV qc_75 qc_1066 qc_73 qc_74 qc_2
section
variable {p : Program} {l : Launch} {e : Env} {s : State} {m : MethodId} {args : Array Value} {below : List Frame} {meth : Method} {c : Code} {D : va_G} {dA : Nat → ClassId} {z : Nat → Nat} {o b i : Nat → Nat} {A : Nat → Prop}
def C_Lex_readCharacter_37  (sL : CS) (sX : CS) (sY : CS) (sN : CS) (sT : CS) : Option (Int32 × CS) :=
  some ((-1 : Int32), sL)
set_option maxHeartbeats 4000000 in
set_option maxRecDepth 100000 in
theorem bC_Lex_readCharacter_37  {r : Int32} {u : CS} (C : CxC R_Lex p s m args meth c cC_Lex_readCharacter 4 (some .int) D dA z A)  (sL : CS) (sX : CS) (sY : CS) (sN : CS) (sT : CS) (hM : C_Lex_readCharacter_37   sL sX sY sN sT = some (r, u)) (H : Heap) (locs : List Loc) (hW : WdC D A s (w_Lex dA o b sL sX sY sN sT) H locs) (ls : Array Slot) (hl : lv_has ls 4 []) : W p l e (rmC 1 21 0 0) s m args below meth c H locs 0 0 (MQ below (QC D A (fun Ws' ov => Ws' = (w_Lex dA o b u sX sY sN sT) ∧ ov = (some (.int r)))) args s 0 0 A) (F0 m 37 ls []) := by
  have hx := C.1.1
  have hb := C.1.2.1
  have hown := C.1.2.2.2.2.1
  have hT := C.1.2.2.2.2.2.1
  unfold C_Lex_readCharacter_37 at hM
  refine lv_iconst (pc := 37) (v := -1) hx hb dC_Lex_readCharacter_37 (by decide) ?_
  obtain ⟨rfl, rfl⟩ := sm_p hM
  exact x_retCi (pc := 38) C rfl hW ⟨rfl, rfl⟩ (Nat.le_refl 0) (Nat.le_refl 0) dC_Lex_readCharacter_38
def C_Lex_readCharacter_136 (x3 : Int32) (sL : CS) (sX : CS) (sY : CS) (sN : CS) (sT : CS) : Option (Int32 × CS) :=
  some (x3, sL)
set_option maxHeartbeats 4000000 in
set_option maxRecDepth 100000 in
theorem bC_Lex_readCharacter_136  {r : Int32} {u : CS} (C : CxC R_Lex p s m args meth c cC_Lex_readCharacter 4 (some .int) D dA z A) (x3 : Int32) (sL : CS) (sX : CS) (sY : CS) (sN : CS) (sT : CS) (hM : C_Lex_readCharacter_136  x3 sL sX sY sN sT = some (r, u)) (H : Heap) (locs : List Loc) (hW : WdC D A s (w_Lex dA o b sL sX sY sN sT) H locs) (ls : Array Slot) (hl : lv_has ls 4 [(3, .int x3)]) : W p l e (rmC 1 21 0 0) s m args below meth c H locs 0 0 (MQ below (QC D A (fun Ws' ov => Ws' = (w_Lex dA o b u sX sY sN sT) ∧ ov = (some (.int r)))) args s 0 0 A) (F0 m 136 ls []) := by
  have hx := C.1.1
  have hb := C.1.2.1
  have hown := C.1.2.2.2.2.1
  have hT := C.1.2.2.2.2.2.1
  unfold C_Lex_readCharacter_136 at hM
  refine lv_iload_n (pc := 136) hx hb dC_Lex_readCharacter_136 rfl (lv_at hl 0 rfl) ?_
  obtain ⟨rfl, rfl⟩ := sm_p hM
  exact x_retCi (pc := 137) C rfl hW ⟨rfl, rfl⟩ (Nat.le_refl 0) (Nat.le_refl 0) dC_Lex_readCharacter_137
def C_Lex_readCharacter (x1 : Int32) (sL : CS) (sX : CS) (sY : CS) (sN : CS) (sT : CS) : Option (Int32 × CS) :=
  cr (C_Row_get  (sL.1 0) sX) (fun r1 => bnd (cF sL 0 ((sL.1 0) + (1 : Int32))) (fun sL2 => (if r1 = x1 then C_Lex_readCharacter_37  sL2 sX sY sN sT else (if r1 = (10 : Int32) then C_Lex_readCharacter_37  sL2 sX sY sN sT else (if r1 = 0 then C_Lex_readCharacter_37  sL2 sX sY sN sT else (if r1 = (92 : Int32) then cr (C_Row_get  (sL2.1 0) sX) (fun r3 => bnd (cF sL2 0 ((sL2.1 0) + (1 : Int32))) (fun sL4 => (if r3 = (34 : Int32) then C_Lex_readCharacter_136  r3 sL4 sX sY sN sT else (if r3 = (39 : Int32) then C_Lex_readCharacter_136  r3 sL4 sX sY sN sT else (if r3 = (48 : Int32) then some ((0 : Int32), sL4) else (if r3 = (92 : Int32) then C_Lex_readCharacter_136  r3 sL4 sX sY sN sT else (if r3 = (110 : Int32) then some ((10 : Int32), sL4) else (if r3 = (116 : Int32) then some ((9 : Int32), sL4) else some ((-1 : Int32), sL4))))))))) else some (r1, sL2)))))))
set_option maxHeartbeats 4000000 in
set_option maxRecDepth 100000 in
theorem bC_Lex_readCharacter_0  {r : Int32} {u : CS} (C : CxC R_Lex p s m args meth c cC_Lex_readCharacter 4 (some .int) D dA z A) (x1 : Int32) (sL : CS) (sX : CS) (sY : CS) (sN : CS) (sT : CS) (hM : C_Lex_readCharacter  x1 sL sX sY sN sT = some (r, u)) (H : Heap) (locs : List Loc) (hW : WdC D A s (w_Lex dA o b sL sX sY sN sT) H locs) (ls : Array Slot) (hl : lv_has ls 4 [(0, .ref (o 80)), (1, .int x1)]) : W p l e (rmC 1 21 0 0) s m args below meth c H locs 0 0 (MQ below (QC D A (fun Ws' ov => Ws' = (w_Lex dA o b u sX sY sN sT) ∧ ov = (some (.int r)))) args s 0 0 A) (F0 m 0 ls []) := by
  have hx := C.1.1
  have hb := C.1.2.1
  have hown := C.1.2.2.2.2.1
  have hT := C.1.2.2.2.2.2.1
  unfold C_Lex_readCharacter at hM
  refine lv_aload_n (pc := 0) hx hb dC_Lex_readCharacter_0 rfl (lv_at hl 0 rfl) ?_
  refine x_getC (pc := 1) C hW 0 rfl (ci := 6) rfl i_Lex 0 (by decide) qc_438 rfl rfl dC_Lex_readCharacter_1 ?_
  refine lv_aload_n (pc := 4) hx hb dC_Lex_readCharacter_4 rfl (lv_at hl 0 rfl) ?_
  refine x_getC (pc := 5) C hW 0 rfl (ci := 6) rfl i_Lex 4 (by decide) qc_442 rfl rfl dC_Lex_readCharacter_5 ?_
  obtain ⟨r1, hr1, hM⟩ := cr_some hM
  refine x_callQ (pc := 8) (n' := 29) (ov := some (.int r1)) C hW (kC_Row_get l D dA z (fun _ => o 0) (fun _ => b 0)  (sL.1 0) sX hr1) [1, 2, 0, 3, 4, 5, 6, 7, 8, 9, 10, 11, 12, 13, 14, 15, 16, 17, 18, 19, 20, 21, 22, 23, 24, 25, 26, 27, 28] rfl (by decide +kernel) rfl (ci := 1) rfl (q0 := 1) rfl gC_Lex_52 ⟨rfl, by decide, by decide, by decide +kernel⟩ ⟨Nat.le_of_ble_eq_true rfl, Nat.le_of_ble_eq_true rfl⟩ ⟨Nat.le_refl _, Nat.le_refl _⟩ (As := [.int (sL.1 0)]) (n := 1) rfl hl.1 rfl (Nat.le_of_ble_eq_true rfl) dC_Lex_readCharacter_8 ?_
  refine lv_istore_n (pc := 11) (lv' := [(2, .int r1), (0, .ref (o 80)), (1, .int x1)]) hx hb dC_Lex_readCharacter_11 rfl hl (by decide) rfl (fun ls hl => ?_)
  refine lv_aload_n (pc := 12) hx hb dC_Lex_readCharacter_12 rfl (lv_at hl 1 rfl) ?_
  refine lv_dup (pc := 13) hx hb dC_Lex_readCharacter_13 rfl ?_
  refine x_getC (pc := 14) C hW 0 rfl (ci := 6) rfl i_Lex 4 (by decide) qc_442 rfl rfl dC_Lex_readCharacter_14 ?_
  refine lv_iconst (pc := 17) (v := 1) hx hb dC_Lex_readCharacter_17 (by decide) ?_
  refine lv_iadd (pc := 18) hx hb dC_Lex_readCharacter_18 ?_
  refine x_putC (pc := 19) (ty := .int) (Ws' := (w_Lex dA o b (cF sL 0 ((sL.1 0) + (1 : Int32))) sX sY sN sT)) C hW 0 rfl (ci := 6) rfl i_Lex tok_Lex n_Lex 4 (by decide) qc_442 rfl rfl (by decide +kernel) rfl rfl (Nat.le_of_ble_eq_true rfl) rfl dC_Lex_readCharacter_19 (fun H locs hW => ?_)
  obtain ⟨sL2, esL2, hM⟩ := bnd_some hM
  rw [← esL2] at hW
  refine lv_iload_n (pc := 22) hx hb dC_Lex_readCharacter_22 rfl (lv_at hl 0 rfl) ?_
  refine lv_iload_n (pc := 23) hx hb dC_Lex_readCharacter_23 rfl (lv_at hl 2 rfl) ?_
  refine lv_icmp_eq (pc := 24) (tgt := 37) hx hb dC_Lex_readCharacter_24 (by decide) (fun hc => ?_) (fun hc => ?_)
  · replace hM := it_t hc hM
    exact bC_Lex_readCharacter_37  C  _ _ _ _ _ hM _ _ hW _ (lv_sub hl [] rfl)
  · replace hM := it_f hc hM
    refine lv_iload_n (pc := 27) hx hb dC_Lex_readCharacter_27 rfl (lv_at hl 0 rfl) ?_
    refine lv_bipush (pc := 28) (v := 10) hx hb dC_Lex_readCharacter_28 (by decide) ?_
    refine lv_icmp_eq (pc := 30) (tgt := 37) hx hb dC_Lex_readCharacter_30 (by decide) (fun hc => ?_) (fun hc => ?_)
    · replace hM := it_t hc hM
      exact bC_Lex_readCharacter_37  C  _ _ _ _ _ hM _ _ hW _ (lv_sub hl [] rfl)
    · replace hM := it_f hc hM
      refine lv_iload_n (pc := 33) hx hb dC_Lex_readCharacter_33 rfl (lv_at hl 0 rfl) ?_
      refine lv_if_ne (pc := 34) (tgt := 39) hx hb dC_Lex_readCharacter_34 (by decide) (fun hc => ?_) (fun hc => ?_)
      · replace hM := it_f hc hM
        refine lv_iload_n (pc := 39) hx hb dC_Lex_readCharacter_39 rfl (lv_at hl 0 rfl) ?_
        refine lv_bipush (pc := 40) (v := 92) hx hb dC_Lex_readCharacter_40 (by decide) ?_
        refine lv_icmp_eq (pc := 42) (tgt := 47) hx hb dC_Lex_readCharacter_42 (by decide) (fun hc => ?_) (fun hc => ?_)
        · replace hM := it_t hc hM
          refine lv_aload_n (pc := 47) hx hb dC_Lex_readCharacter_47 rfl (lv_at hl 1 rfl) ?_
          refine x_getC (pc := 48) C hW 0 rfl (ci := 6) rfl i_Lex 0 (by decide) qc_438 rfl rfl dC_Lex_readCharacter_48 ?_
          refine lv_aload_n (pc := 51) hx hb dC_Lex_readCharacter_51 rfl (lv_at hl 1 rfl) ?_
          refine x_getC (pc := 52) C hW 0 rfl (ci := 6) rfl i_Lex 4 (by decide) qc_442 rfl rfl dC_Lex_readCharacter_52 ?_
          obtain ⟨r3, hr3, hM⟩ := cr_some hM
          refine x_callQ (pc := 55) (n' := 29) (ov := some (.int r3)) C hW (kC_Row_get l D dA z (fun _ => o 0) (fun _ => b 0)  (sL2.1 0) sX hr3) [1, 2, 0, 3, 4, 5, 6, 7, 8, 9, 10, 11, 12, 13, 14, 15, 16, 17, 18, 19, 20, 21, 22, 23, 24, 25, 26, 27, 28] rfl (by decide +kernel) rfl (ci := 1) rfl (q0 := 1) rfl gC_Lex_52 ⟨rfl, by decide, by decide, by decide +kernel⟩ ⟨Nat.le_of_ble_eq_true rfl, Nat.le_of_ble_eq_true rfl⟩ ⟨Nat.le_refl _, Nat.le_refl _⟩ (As := [.int (sL2.1 0)]) (n := 1) rfl hl.1 rfl (Nat.le_of_ble_eq_true rfl) dC_Lex_readCharacter_55 ?_
          refine lv_istore_n (pc := 58) (lv' := [(3, .int r3), (2, .int r1), (0, .ref (o 80)), (1, .int x1)]) hx hb dC_Lex_readCharacter_58 rfl hl (by decide) rfl (fun ls hl => ?_)
          refine lv_aload_n (pc := 59) hx hb dC_Lex_readCharacter_59 rfl (lv_at hl 2 rfl) ?_
          refine lv_dup (pc := 60) hx hb dC_Lex_readCharacter_60 rfl ?_
          refine x_getC (pc := 61) C hW 0 rfl (ci := 6) rfl i_Lex 4 (by decide) qc_442 rfl rfl dC_Lex_readCharacter_61 ?_
          refine lv_iconst (pc := 64) (v := 1) hx hb dC_Lex_readCharacter_64 (by decide) ?_
          refine lv_iadd (pc := 65) hx hb dC_Lex_readCharacter_65 ?_
          refine x_putC (pc := 66) (ty := .int) (Ws' := (w_Lex dA o b (cF sL2 0 ((sL2.1 0) + (1 : Int32))) sX sY sN sT)) C hW 0 rfl (ci := 6) rfl i_Lex tok_Lex n_Lex 4 (by decide) qc_442 rfl rfl (by decide +kernel) rfl rfl (Nat.le_of_ble_eq_true rfl) rfl dC_Lex_readCharacter_66 (fun H locs hW => ?_)
          obtain ⟨sL4, esL4, hM⟩ := bnd_some hM
          rw [← esL4] at hW
          refine lv_iload_n (pc := 69) hx hb dC_Lex_readCharacter_69 rfl (lv_at hl 0 rfl) ?_
          by_cases k5_0 : r3 = (34 : Int32)
          · replace hM := it_t k5_0 hM
            refine lv_lookup (pc := 70) (off := 66) (tgt := 136) hx hb dC_Lex_readCharacter_70 (by decide) (by rw [k5_0]; decide) (by decide) ?_
            exact bC_Lex_readCharacter_136  C  _ _ _ _ _ _ hM _ _ hW _ (lv_sub hl [0] rfl)
          · replace hM := it_f k5_0 hM
            by_cases k5_1 : r3 = (39 : Int32)
            · replace hM := it_t k5_1 hM
              refine lv_lookup (pc := 70) (off := 66) (tgt := 136) hx hb dC_Lex_readCharacter_70 (by decide) (by rw [k5_1]; decide) (by decide) ?_
              exact bC_Lex_readCharacter_136  C  _ _ _ _ _ _ hM _ _ hW _ (lv_sub hl [0] rfl)
            · replace hM := it_f k5_1 hM
              by_cases k5_2 : r3 = (48 : Int32)
              · replace hM := it_t k5_2 hM
                refine lv_lookup (pc := 70) (off := 64) (tgt := 134) hx hb dC_Lex_readCharacter_70 (by decide) (by rw [k5_2]; decide) (by decide) ?_
                refine lv_iconst (pc := 134) (v := 0) hx hb dC_Lex_readCharacter_134 (by decide) ?_
                obtain ⟨rfl, rfl⟩ := sm_p hM
                exact x_retCi (pc := 135) C rfl hW ⟨rfl, rfl⟩ (Nat.le_refl 0) (Nat.le_refl 0) dC_Lex_readCharacter_135
              · replace hM := it_f k5_2 hM
                by_cases k5_3 : r3 = (92 : Int32)
                · replace hM := it_t k5_3 hM
                  refine lv_lookup (pc := 70) (off := 66) (tgt := 136) hx hb dC_Lex_readCharacter_70 (by decide) (by rw [k5_3]; decide) (by decide) ?_
                  exact bC_Lex_readCharacter_136  C  _ _ _ _ _ _ hM _ _ hW _ (lv_sub hl [0] rfl)
                · replace hM := it_f k5_3 hM
                  by_cases k5_4 : r3 = (110 : Int32)
                  · replace hM := it_t k5_4 hM
                    refine lv_lookup (pc := 70) (off := 58) (tgt := 128) hx hb dC_Lex_readCharacter_70 (by decide) (by rw [k5_4]; decide) (by decide) ?_
                    refine lv_bipush (pc := 128) (v := 10) hx hb dC_Lex_readCharacter_128 (by decide) ?_
                    obtain ⟨rfl, rfl⟩ := sm_p hM
                    exact x_retCi (pc := 130) C rfl hW ⟨rfl, rfl⟩ (Nat.le_refl 0) (Nat.le_refl 0) dC_Lex_readCharacter_130
                  · replace hM := it_f k5_4 hM
                    by_cases k5_5 : r3 = (116 : Int32)
                    · replace hM := it_t k5_5 hM
                      refine lv_lookup (pc := 70) (off := 61) (tgt := 131) hx hb dC_Lex_readCharacter_70 (by decide) (by rw [k5_5]; decide) (by decide) ?_
                      refine lv_bipush (pc := 131) (v := 9) hx hb dC_Lex_readCharacter_131 (by decide) ?_
                      obtain ⟨rfl, rfl⟩ := sm_p hM
                      exact x_retCi (pc := 133) C rfl hW ⟨rfl, rfl⟩ (Nat.le_refl 0) (Nat.le_refl 0) dC_Lex_readCharacter_133
                    · replace hM := it_f k5_5 hM
                      refine lv_lookup (pc := 70) (off := 68) (tgt := 138) hx hb dC_Lex_readCharacter_70 (by decide) (by rw [lv_osw k5_0 (by decide)]; rw [lv_osw k5_1 (by decide)]; rw [lv_osw k5_2 (by decide)]; rw [lv_osw k5_3 (by decide)]; rw [lv_osw k5_4 (by decide)]; rw [lv_osw k5_5 (by decide)]; rfl) (by decide) ?_
                      refine lv_iconst (pc := 138) (v := -1) hx hb dC_Lex_readCharacter_138 (by decide) ?_
                      obtain ⟨rfl, rfl⟩ := sm_p hM
                      exact x_retCi (pc := 139) C rfl hW ⟨rfl, rfl⟩ (Nat.le_refl 0) (Nat.le_refl 0) dC_Lex_readCharacter_139
        · replace hM := it_f hc hM
          refine lv_iload_n (pc := 45) hx hb dC_Lex_readCharacter_45 rfl (lv_at hl 0 rfl) ?_
          obtain ⟨rfl, rfl⟩ := sm_p hM
          exact x_retCi (pc := 46) C rfl hW ⟨rfl, rfl⟩ (Nat.le_refl 0) (Nat.le_refl 0) dC_Lex_readCharacter_46
      · replace hM := it_t hc hM
        exact bC_Lex_readCharacter_37  C  _ _ _ _ _ hM _ _ hW _ (lv_sub hl [] rfl)
theorem kC_Lex_readCharacter (l : Launch) (D : va_G) (dA : Nat → ClassId) (z : Nat → Nat) (o b : Nat → Nat) (x1 : Int32) (sL : CS) (sX : CS) (sY : CS) (sN : CS) (sT : CS) {r : Int32} {u : CS} (hM : C_Lex_readCharacter x1 sL sX sY sN sT = some (r, u)) : KC l D dA z yC_Lex_readCharacter cC_Lex_readCharacter 4 (some .int) 1 21 0 0 (w_Lex dA o b sL sX sY sN sT) [.ref (o 80), .int x1] (fun Ws' ov => Ws' = (w_Lex dA o b u sX sY sN sT) ∧ ov = (some (.int r))) := x_enterC (by decide +kernel) (Nat.le_of_ble_eq_true rfl) (fun p e s m args below meth c A C _ hW ls hl => bC_Lex_readCharacter_0 C x1 sL sX sY sN sT hM s.heap [] hW ls hl)
def C_Lex_skipRemark_54 (N : Nat)  (sL : CS) (sX : CS) (sY : CS) (sN : CS) (sT : CS) : Option (Int32 × CS) :=
  some ((0 : Int32), sL)
set_option maxHeartbeats 4000000 in
set_option maxRecDepth 100000 in
theorem bC_Lex_skipRemark_54 (N : Nat)  {r : Int32} {u : CS} (C : CxC R_Lex p s m args meth c cC_Lex_skipRemark 3 none D dA z A)  (sL : CS) (sX : CS) (sY : CS) (sN : CS) (sT : CS) (hM : C_Lex_skipRemark_54 N   sL sX sY sN sT = some (r, u)) (H : Heap) (locs : List Loc) (hW : WdC D A s (w_Lex dA o b sL sX sY sN sT) H locs) (ls : Array Slot) (hl : lv_has ls 3 []) : W p l e (rmC 1 21 0 0) s m args below meth c H locs 0 0 (MQ below (QC D A (fun Ws' ov => Ws' = (w_Lex dA o b u sX sY sN sT) ∧ ov = none)) args s 0 0 A) (F0 m 54 ls []) := by
  have hx := C.1.1
  have hb := C.1.2.1
  have hown := C.1.2.2.2.2.1
  have hT := C.1.2.2.2.2.2.1
  unfold C_Lex_skipRemark_54 at hM
  obtain ⟨rfl, rfl⟩ := sm_p hM
  exact x_retCv (pc := 54) C rfl hW ⟨rfl, rfl⟩ (Nat.le_refl 0) (Nat.le_refl 0) dC_Lex_skipRemark_54
def C_Lex_skipRemark_10 (N : Nat)  : Nat → Int32 → Int32 → CS → CS → CS → CS → CS → Option (Int32 × CS)
  | 0 => fun _ _ _ _ _ _ _ => none
  | n + 1 => fun x1 x2 sL sX sY sN sT => (if x2 ≤ 0 then C_Lex_skipRemark_54 N  sL sX sY sN sT else (if x1 ≤ (sL.1 0) then C_Lex_skipRemark_54 N  sL sX sY sN sT else cr (C_Row_get  (sL.1 0) sX) (fun r1 => (if r1 = (10 : Int32) then C_Lex_skipRemark_54 N  sL sX sY sN sT else bnd (cF sL 0 ((sL.1 0) + (1 : Int32))) (fun sL2 => (C_Lex_skipRemark_10 N  n) x1 (x2 + (-1 : Int32)) sL2 sX sY sN sT)))))
set_option maxHeartbeats 4000000 in
set_option maxRecDepth 100000 in
theorem bC_Lex_skipRemark_10 (N : Nat)  {r : Int32} {u : CS} (C : CxC R_Lex p s m args meth c cC_Lex_skipRemark 3 none D dA z A) : ∀ (n : Nat) (x1 : Int32) (x2 : Int32) (sL : CS) (sX : CS) (sY : CS) (sN : CS) (sT : CS) , C_Lex_skipRemark_10 N  n x1 x2 sL sX sY sN sT = some (r, u) → ∀ (H : Heap) (locs : List Loc) (hW : WdC D A s (w_Lex dA o b sL sX sY sN sT) H locs) (ls : Array Slot) (hl : lv_has ls 3 [(0, .ref (o 80)), (1, .int x1), (2, .int x2)]), W p l e (rmC 1 21 0 0) s m args below meth c H locs 0 0 (MQ below (QC D A (fun Ws' ov => Ws' = (w_Lex dA o b u sX sY sN sT) ∧ ov = none)) args s 0 0 A) (F0 m 10 ls []) := by
  have hx := C.1.1
  have hb := C.1.2.1
  have hown := C.1.2.2.2.2.1
  have hT := C.1.2.2.2.2.2.1
  intro n
  induction n with
  | zero => intro x1 x2 sL sX sY sN sT hM; cases hM
  | succ n hrec10 =>
    intro x1 x2 sL sX sY sN sT hM H locs hW ls hl
    rw [C_Lex_skipRemark_10] at hM
    refine lv_iload_n (pc := 10) hx hb dC_Lex_skipRemark_10 rfl (lv_at hl 2 rfl) ?_
    refine lv_if_le (pc := 11) (tgt := 54) hx hb dC_Lex_skipRemark_11 (by decide) (fun hc => ?_) (fun hc => ?_)
    · replace hM := it_t hc hM
      exact bC_Lex_skipRemark_54 N  C  _ _ _ _ _ hM _ _ hW _ (lv_sub hl [] rfl)
    · replace hM := it_f hc hM
      refine lv_aload_n (pc := 14) hx hb dC_Lex_skipRemark_14 rfl (lv_at hl 0 rfl) ?_
      refine x_getC (pc := 15) C hW 0 rfl (ci := 6) rfl i_Lex 4 (by decide) qc_442 rfl rfl dC_Lex_skipRemark_15 ?_
      refine lv_iload_n (pc := 18) hx hb dC_Lex_skipRemark_18 rfl (lv_at hl 1 rfl) ?_
      refine lv_icmp_ge (pc := 19) (tgt := 54) hx hb dC_Lex_skipRemark_19 (by decide) (fun hc => ?_) (fun hc => ?_)
      · replace hM := it_t hc hM
        exact bC_Lex_skipRemark_54 N  C  _ _ _ _ _ hM _ _ hW _ (lv_sub hl [] rfl)
      · replace hM := it_f hc hM
        refine lv_aload_n (pc := 22) hx hb dC_Lex_skipRemark_22 rfl (lv_at hl 0 rfl) ?_
        refine x_getC (pc := 23) C hW 0 rfl (ci := 6) rfl i_Lex 0 (by decide) qc_438 rfl rfl dC_Lex_skipRemark_23 ?_
        refine lv_aload_n (pc := 26) hx hb dC_Lex_skipRemark_26 rfl (lv_at hl 0 rfl) ?_
        refine x_getC (pc := 27) C hW 0 rfl (ci := 6) rfl i_Lex 4 (by decide) qc_442 rfl rfl dC_Lex_skipRemark_27 ?_
        obtain ⟨r1, hr1, hM⟩ := cr_some hM
        refine x_callQ (pc := 30) (n' := 29) (ov := some (.int r1)) C hW (kC_Row_get l D dA z (fun _ => o 0) (fun _ => b 0)  (sL.1 0) sX hr1) [1, 2, 0, 3, 4, 5, 6, 7, 8, 9, 10, 11, 12, 13, 14, 15, 16, 17, 18, 19, 20, 21, 22, 23, 24, 25, 26, 27, 28] rfl (by decide +kernel) rfl (ci := 1) rfl (q0 := 1) rfl gC_Lex_52 ⟨rfl, by decide, by decide, by decide +kernel⟩ ⟨Nat.le_of_ble_eq_true rfl, Nat.le_of_ble_eq_true rfl⟩ ⟨Nat.le_refl _, Nat.le_refl _⟩ (As := [.int (sL.1 0)]) (n := 1) rfl hl.1 rfl (Nat.le_of_ble_eq_true rfl) dC_Lex_skipRemark_30 ?_
        refine lv_bipush (pc := 33) (v := 10) hx hb dC_Lex_skipRemark_33 (by decide) ?_
        refine lv_icmp_eq (pc := 35) (tgt := 54) hx hb dC_Lex_skipRemark_35 (by decide) (fun hc => ?_) (fun hc => ?_)
        · replace hM := it_t hc hM
          exact bC_Lex_skipRemark_54 N  C  _ _ _ _ _ hM _ _ hW _ (lv_sub hl [] rfl)
        · replace hM := it_f hc hM
          refine lv_aload_n (pc := 38) hx hb dC_Lex_skipRemark_38 rfl (lv_at hl 0 rfl) ?_
          refine lv_dup (pc := 39) hx hb dC_Lex_skipRemark_39 rfl ?_
          refine x_getC (pc := 40) C hW 0 rfl (ci := 6) rfl i_Lex 4 (by decide) qc_442 rfl rfl dC_Lex_skipRemark_40 ?_
          refine lv_iconst (pc := 43) (v := 1) hx hb dC_Lex_skipRemark_43 (by decide) ?_
          refine lv_iadd (pc := 44) hx hb dC_Lex_skipRemark_44 ?_
          refine x_putC (pc := 45) (ty := .int) (Ws' := (w_Lex dA o b (cF sL 0 ((sL.1 0) + (1 : Int32))) sX sY sN sT)) C hW 0 rfl (ci := 6) rfl i_Lex tok_Lex n_Lex 4 (by decide) qc_442 rfl rfl (by decide +kernel) rfl rfl (Nat.le_of_ble_eq_true rfl) rfl dC_Lex_skipRemark_45 (fun H locs hW => ?_)
          obtain ⟨sL2, esL2, hM⟩ := bnd_some hM
          rw [← esL2] at hW
          refine lv_iinc (pc := 48) (v := x2 + (-1 : Int32)) (lv' := [(2, .int (x2 + (-1 : Int32))), (0, .ref (o 80)), (1, .int x1)]) hx hb dC_Lex_skipRemark_48 hl (k := 2) rfl rfl (by decide) rfl (fun ls hl => ?_)
          refine lv_goto (pc := 51) (tgt := 10) hx hb dC_Lex_skipRemark_51 (by decide) ?_
          exact hrec10 _ _ _ _ _ _ _ hM _ _ hW _ (lv_sub hl [1, 2, 0] rfl)
def C_Lex_skipRemark (N : Nat)  (sL : CS) (sX : CS) (sY : CS) (sN : CS) (sT : CS) : Option (Int32 × CS) :=
  C_Lex_skipRemark_10 N  N (sX.1 0) (sX.1 0) sL sX sY sN sT
set_option maxHeartbeats 4000000 in
set_option maxRecDepth 100000 in
theorem bC_Lex_skipRemark_0 (N : Nat)  {r : Int32} {u : CS} (C : CxC R_Lex p s m args meth c cC_Lex_skipRemark 3 none D dA z A)  (sL : CS) (sX : CS) (sY : CS) (sN : CS) (sT : CS) (hM : C_Lex_skipRemark N   sL sX sY sN sT = some (r, u)) (H : Heap) (locs : List Loc) (hW : WdC D A s (w_Lex dA o b sL sX sY sN sT) H locs) (ls : Array Slot) (hl : lv_has ls 3 [(0, .ref (o 80))]) : W p l e (rmC 1 21 0 0) s m args below meth c H locs 0 0 (MQ below (QC D A (fun Ws' ov => Ws' = (w_Lex dA o b u sX sY sN sT) ∧ ov = none)) args s 0 0 A) (F0 m 0 ls []) := by
  have hx := C.1.1
  have hb := C.1.2.1
  have hown := C.1.2.2.2.2.1
  have hT := C.1.2.2.2.2.2.1
  unfold C_Lex_skipRemark at hM
  refine lv_aload_n (pc := 0) hx hb dC_Lex_skipRemark_0 rfl (lv_at hl 0 rfl) ?_
  refine x_getC (pc := 1) C hW 0 rfl (ci := 6) rfl i_Lex 0 (by decide) qc_438 rfl rfl dC_Lex_skipRemark_1 ?_
  refine x_getC (pc := 4) C hW 1 rfl (ci := 1) rfl i_Row 0 (by decide) qc_55 rfl rfl dC_Lex_skipRemark_4 ?_
  refine lv_istore_n (pc := 7) (lv' := [(1, .int (sX.1 0)), (0, .ref (o 80))]) hx hb dC_Lex_skipRemark_7 rfl hl (by decide) rfl (fun ls hl => ?_)
  refine lv_iload_n (pc := 8) hx hb dC_Lex_skipRemark_8 rfl (lv_at hl 0 rfl) ?_
  refine lv_istore_n (pc := 9) (lv' := [(2, .int (sX.1 0)), (1, .int (sX.1 0)), (0, .ref (o 80))]) hx hb dC_Lex_skipRemark_9 rfl hl (by decide) rfl (fun ls hl => ?_)
  exact bC_Lex_skipRemark_10 N  C  N _ _ _ _ _ _ _ hM _ _ hW _ (lv_sub hl [2, 1, 0] rfl)
theorem kC_Lex_skipRemark (l : Launch) (D : va_G) (dA : Nat → ClassId) (z : Nat → Nat) (o b : Nat → Nat) (N : Nat)  (sL : CS) (sX : CS) (sY : CS) (sN : CS) (sT : CS) {r : Int32} {u : CS} (hM : C_Lex_skipRemark N  sL sX sY sN sT = some (r, u)) : KC l D dA z yC_Lex_skipRemark cC_Lex_skipRemark 3 none 1 21 0 0 (w_Lex dA o b sL sX sY sN sT) [.ref (o 80)] (fun Ws' ov => Ws' = (w_Lex dA o b u sX sY sN sT) ∧ ov = none) := x_enterC (by decide +kernel) (Nat.le_of_ble_eq_true rfl) (fun p e s m args below meth c A C _ hW ls hl => bC_Lex_skipRemark_0 N C  sL sX sY sN sT hM s.heap [] hW ls hl)
def C_Lex_readName_75 (N : Nat)  : Nat → Int32 → CS → CS → CS → CS → CS → Option ((Int32 × (CS × CS × CS)) × (Nat × Nat))
  | 0 => fun _ _ _ _ _ _ => none
  | n + 1 => fun x3 sL sX sY sN sT => (if (sL.1 0) ≤ x3 then ct (C_Nam_finish N sN) (fun r1 u2 => ct (C_Tok_add  (2 : Int32) r1 (0 : Int32) sT) (fun r8 u9 => some (((1 : Int32), (sL, u2, u9)), (0, 0)))) else cr (C_Row_get  x3 sX) (fun r15 => ct (C_Nam_put  r15 sN) (fun r16 u17 => (C_Lex_readName_75 N  n) (x3 + (1 : Int32)) sL sX sY u17 sT)))
set_option maxHeartbeats 4000000 in
set_option maxRecDepth 100000 in
theorem bC_Lex_readName_75 (N : Nat)  {r : Int32} {u : CS × CS × CS} {DC DS : Nat} (C : CxC R_Lex p s m args meth c cC_Lex_readName 4 (some .boolean) D dA z A) : ∀ (n : Nat) (x3 : Int32) (sL : CS) (sX : CS) (sY : CS) (sN : CS) (sT : CS) (dc ds kc ks : Nat) , C_Lex_readName_75 N  n x3 sL sX sY sN sT = some ((r, u), (dc, ds)) → ∀ (hdc : kc + dc ≤ DC) (hds : ks + ds ≤ DS) (b : Nat → Nat) (H : Heap) (locs : List Loc) (hW : WdC D A s (w_Lex dA o b sL sX sY sN sT) H locs) (ls : Array Slot) (hl : lv_has ls 4 [(0, .ref (o 80)), (3, .int x3)]), W p l e (rmC 4 146 DC DS) s m args below meth c H locs kc ks (MQ below (QC D A (fun Ws' ov => ∃ b' : Nat → Nat, Ws' = (w_Lex dA o b' u.1 sX sY u.2.1 u.2.2) ∧ ov = (some (.int r)))) args s DC DS A) (F0 m 75 ls []) := by
  have hx := C.1.1
  have hb := C.1.2.1
  have hown := C.1.2.2.2.2.1
  have hT := C.1.2.2.2.2.2.1
  intro n
  induction n with
  | zero => intro x3 sL sX sY sN sT dc ds kc ks hM; cases hM
  | succ n hrec75 =>
    intro x3 sL sX sY sN sT dc ds kc ks hM hdc hds b H locs hW ls hl
    rw [C_Lex_readName_75] at hM
    refine lv_iload_n (pc := 75) hx hb dC_Lex_readName_75 rfl (lv_at hl 1 rfl) ?_
    refine lv_aload_n (pc := 76) hx hb dC_Lex_readName_76 rfl (lv_at hl 0 rfl) ?_
    refine x_getC (pc := 77) C hW 0 rfl (ci := 6) rfl i_Lex 4 (by decide) qc_442 rfl rfl dC_Lex_readName_77 ?_
    refine lv_icmp_ge (pc := 80) (tgt := 104) hx hb dC_Lex_readName_80 (by decide) (fun hc => ?_) (fun hc => ?_)
    · replace hM := it_t hc hM
      refine lv_aload_n (pc := 104) hx hb dC_Lex_readName_104 rfl (lv_at hl 0 rfl) ?_
      refine x_getC (pc := 105) C hW 0 rfl (ci := 6) rfl i_Lex 2 (by decide) qc_440 rfl rfl dC_Lex_readName_105 ?_
      refine lv_iconst (pc := 108) (v := 2) hx hb dC_Lex_readName_108 (by decide) ?_
      refine lv_aload_n (pc := 109) hx hb dC_Lex_readName_109 rfl (lv_at hl 0 rfl) ?_
      refine x_getC (pc := 110) C hW 0 rfl (ci := 6) rfl i_Lex 1 (by decide) qc_439 rfl rfl dC_Lex_readName_110 ?_
      obtain ⟨r1, u2, da3, ea4, db5, eb6, hr1, hM, hqda3, hpda3⟩ := ct_some hM
      refine x_callC (pc := 113) (n' := 29) C hW (kC_Nam_finish l D dA z o b N sN hr1) [5, 6, 7, 8, 9, 10, 11, 12, 13, 14, 15, 16, 17, 18, 19, 20, 21, 22, 23, 24, 0, 1, 2, 3, 4, 25, 26, 27, 28] rfl (by decide +kernel) rfl (ci := 2) rfl (q0 := 5) rfl gC_Lex_86 ⟨rfl, by decide, by decide, by decide +kernel⟩ ⟨Nat.le_of_ble_eq_true rfl, Nat.le_of_ble_eq_true rfl⟩ ⟨show _ + da3 ≤ DC by omega, show _ + ea4 ≤ DS by omega⟩ (As := []) (n := 0) rfl hl.1 rfl (Nat.le_of_ble_eq_true rfl) dC_Lex_readName_113 (fun Wc' ov H locs hPo hWn => ?_)
      obtain ⟨b7, rfl, rfl⟩ := hPo
      have hW := hWn (w_Lex dA o (mxs [1] b7 b) sL sX sY u2 sT) rfl rfl
      generalize mxs [1] b7 b = b at hW
      refine lv_iconst (pc := 116) (v := 0) hx hb dC_Lex_readName_116 (by decide) ?_
      obtain ⟨r8, u9, da10, ea11, db12, eb13, hr8, hM, hqda10, hpda10⟩ := ct_some hM
      refine x_callC (pc := 117) (n' := 29) C hW (kC_Tok_add l D dA z o b  (2 : Int32) r1 (0 : Int32) sT hr8) [25, 26, 27, 28, 0, 1, 2, 3, 4, 5, 6, 7, 8, 9, 10, 11, 12, 13, 14, 15, 16, 17, 18, 19, 20, 21, 22, 23, 24] rfl (by decide +kernel) rfl (ci := 3) rfl (q0 := 25) rfl gC_Lex_48 ⟨rfl, by decide, by decide, by decide +kernel⟩ ⟨Nat.le_of_ble_eq_true rfl, Nat.le_of_ble_eq_true rfl⟩ ⟨show _ + da10 ≤ DC by omega, show _ + ea11 ≤ DS by omega⟩ (As := [.int (2 : Int32), .int r1, .int (0 : Int32)]) (n := 3) rfl hl.1 rfl (Nat.le_of_ble_eq_true rfl) dC_Lex_readName_117 (fun Wc' ov H locs hPo hWn => ?_)
      obtain ⟨b14, rfl, rfl⟩ := hPo
      have hW := hWn (w_Lex dA o (mxs [2] b14 b) sL sX sY u2 u9) rfl rfl
      generalize mxs [2] b14 b = b at hW
      refine lv_iconst (pc := 120) (v := 1) hx hb dC_Lex_readName_120 (by decide) ?_
      obtain ⟨rfl, rfl, rfl, rfl⟩ := sm_q hM
      exact x_retCz (pc := 121) C rfl rfl hW ⟨_, rfl, rfl⟩ (by omega) (by omega) dC_Lex_readName_121
    · replace hM := it_f hc hM
      refine lv_aload_n (pc := 83) hx hb dC_Lex_readName_83 rfl (lv_at hl 0 rfl) ?_
      refine x_getC (pc := 84) C hW 0 rfl (ci := 6) rfl i_Lex 1 (by decide) qc_439 rfl rfl dC_Lex_readName_84 ?_
      refine lv_aload_n (pc := 87) hx hb dC_Lex_readName_87 rfl (lv_at hl 0 rfl) ?_
      refine x_getC (pc := 88) C hW 0 rfl (ci := 6) rfl i_Lex 0 (by decide) qc_438 rfl rfl dC_Lex_readName_88 ?_
      refine lv_iload_n (pc := 91) hx hb dC_Lex_readName_91 rfl (lv_at hl 1 rfl) ?_
      obtain ⟨r15, hr15, hM⟩ := cr_some hM
      refine x_callQ (pc := 92) (n' := 29) (ov := some (.int r15)) C hW (kC_Row_get l D dA z (fun _ => o 0) (fun _ => b 0)  x3 sX hr15) [1, 2, 0, 3, 4, 5, 6, 7, 8, 9, 10, 11, 12, 13, 14, 15, 16, 17, 18, 19, 20, 21, 22, 23, 24, 25, 26, 27, 28] rfl (by decide +kernel) rfl (ci := 1) rfl (q0 := 1) rfl gC_Lex_52 ⟨rfl, by decide, by decide, by decide +kernel⟩ ⟨Nat.le_of_ble_eq_true rfl, Nat.le_of_ble_eq_true rfl⟩ ⟨show _ ≤ DC by omega, show _ ≤ DS by omega⟩ (As := [.int x3]) (n := 1) rfl hl.1 rfl (Nat.le_of_ble_eq_true rfl) dC_Lex_readName_92 ?_
      obtain ⟨r16, u17, da18, ea19, db20, eb21, hr16, hM, hqda18, hpda18⟩ := ct_some hM
      refine x_callC (pc := 95) (n' := 29) C hW (kC_Nam_put l D dA z o b  r15 sN hr16) [5, 6, 7, 8, 9, 10, 11, 12, 13, 14, 15, 16, 17, 18, 19, 20, 21, 22, 23, 24, 0, 1, 2, 3, 4, 25, 26, 27, 28] rfl (by decide +kernel) rfl (ci := 2) rfl (q0 := 5) rfl gC_Lex_81 ⟨rfl, by decide, by decide, by decide +kernel⟩ ⟨Nat.le_of_ble_eq_true rfl, Nat.le_of_ble_eq_true rfl⟩ ⟨show _ + da18 ≤ DC by omega, show _ + ea19 ≤ DS by omega⟩ (As := [.int r15]) (n := 1) rfl hl.1 rfl (Nat.le_of_ble_eq_true rfl) dC_Lex_readName_95 (fun Wc' ov H locs hPo hWn => ?_)
      obtain ⟨b22, rfl, rfl⟩ := hPo
      have hW := hWn (w_Lex dA o (mxs [1] b22 b) sL sX sY u17 sT) rfl rfl
      generalize mxs [1] b22 b = b at hW
      refine lv_iinc (pc := 98) (v := x3 + (1 : Int32)) (lv' := [(3, .int (x3 + (1 : Int32))), (0, .ref (o 80))]) hx hb dC_Lex_readName_98 hl (k := 1) rfl rfl (by decide) rfl (fun ls hl => ?_)
      refine lv_goto (pc := 101) (tgt := 75) hx hb dC_Lex_readName_101 (by decide) ?_
      exact hrec75 _ _ _ _ _ _ _ _ _ _ hM (by omega) (by omega) _ _ _ hW _ (lv_sub hl [1, 0] rfl)
def C_Lex_readName_60 (N : Nat) (x1 : Int32) (sL : CS) (sX : CS) (sY : CS) (sN : CS) (sT : CS) : Option ((Int32 × (CS × CS × CS)) × (Nat × Nat)) :=
  (if ((sL.1 0) - x1) ≤ (31 : Int32) then C_Lex_readName_75 N  N x1 sL sX sY sN sT else some (((0 : Int32), (sL, sN, sT)), (0, 0)))
set_option maxHeartbeats 4000000 in
set_option maxRecDepth 100000 in
theorem bC_Lex_readName_60 (N : Nat)  {r : Int32} {u : CS × CS × CS} {DC DS : Nat} (C : CxC R_Lex p s m args meth c cC_Lex_readName 4 (some .boolean) D dA z A) (x1 : Int32) (sL : CS) (sX : CS) (sY : CS) (sN : CS) (sT : CS) (dc ds kc ks : Nat) (hM : C_Lex_readName_60 N  x1 sL sX sY sN sT = some ((r, u), (dc, ds))) (hdc : kc + dc ≤ DC) (hds : ks + ds ≤ DS) (b : Nat → Nat) (H : Heap) (locs : List Loc) (hW : WdC D A s (w_Lex dA o b sL sX sY sN sT) H locs) (ls : Array Slot) (hl : lv_has ls 4 [(0, .ref (o 80)), (1, .int x1)]) : W p l e (rmC 4 146 DC DS) s m args below meth c H locs kc ks (MQ below (QC D A (fun Ws' ov => ∃ b' : Nat → Nat, Ws' = (w_Lex dA o b' u.1 sX sY u.2.1 u.2.2) ∧ ov = (some (.int r)))) args s DC DS A) (F0 m 60 ls []) := by
  have hx := C.1.1
  have hb := C.1.2.1
  have hown := C.1.2.2.2.2.1
  have hT := C.1.2.2.2.2.2.1
  unfold C_Lex_readName_60 at hM
  refine lv_aload_n (pc := 60) hx hb dC_Lex_readName_60 rfl (lv_at hl 0 rfl) ?_
  refine x_getC (pc := 61) C hW 0 rfl (ci := 6) rfl i_Lex 4 (by decide) qc_442 rfl rfl dC_Lex_readName_61 ?_
  refine lv_iload_n (pc := 64) hx hb dC_Lex_readName_64 rfl (lv_at hl 1 rfl) ?_
  refine lv_isub (pc := 65) hx hb dC_Lex_readName_65 ?_
  refine lv_bipush (pc := 66) (v := 31) hx hb dC_Lex_readName_66 (by decide) ?_
  refine lv_icmp_le (pc := 68) (tgt := 73) hx hb dC_Lex_readName_68 (by decide) (fun hc => ?_) (fun hc => ?_)
  · replace hM := it_t hc hM
    refine lv_iload_n (pc := 73) hx hb dC_Lex_readName_73 rfl (lv_at hl 1 rfl) ?_
    refine lv_istore_n (pc := 74) (lv' := [(3, .int x1), (0, .ref (o 80)), (1, .int x1)]) hx hb dC_Lex_readName_74 rfl hl (by decide) rfl (fun ls hl => ?_)
    exact bC_Lex_readName_75 N  C  N _ _ _ _ _ _ _ _ _ _ hM (by omega) (by omega) _ _ _ hW _ (lv_sub hl [1, 0] rfl)
  · replace hM := it_f hc hM
    refine lv_iconst (pc := 71) (v := 0) hx hb dC_Lex_readName_71 (by decide) ?_
    obtain ⟨rfl, rfl, rfl, rfl⟩ := sm_q hM
    exact x_retCz (pc := 72) C rfl rfl hW ⟨_, rfl, rfl⟩ (by omega) (by omega) dC_Lex_readName_72
def C_Lex_readName_15 (N : Nat)  : Nat → Int32 → Int32 → Int32 → CS → CS → CS → CS → CS → Option ((Int32 × (CS × CS × CS)) × (Nat × Nat))
  | 0 => fun _ _ _ _ _ _ _ _ => none
  | n + 1 => fun x1 x2 x3 sL sX sY sN sT => (if x3 ≤ 0 then C_Lex_readName_60 N  x1 sL sX sY sN sT else (if x2 ≤ (sL.1 0) then C_Lex_readName_60 N  x1 sL sX sY sN sT else cr (C_Row_get  (sL.1 0) sX) (fun r1 => cr (C_Lex_isOfName  r1) (fun r2 => (if r2 = 0 then C_Lex_readName_60 N  x1 sL sX sY sN sT else bnd (cF sL 0 ((sL.1 0) + (1 : Int32))) (fun sL3 => (C_Lex_readName_15 N  n) x1 x2 (x3 + (-1 : Int32)) sL3 sX sY sN sT))))))
set_option maxHeartbeats 4000000 in
set_option maxRecDepth 100000 in
theorem bC_Lex_readName_15 (N : Nat)  {r : Int32} {u : CS × CS × CS} {DC DS : Nat} (C : CxC R_Lex p s m args meth c cC_Lex_readName 4 (some .boolean) D dA z A) : ∀ (n : Nat) (x1 : Int32) (x2 : Int32) (x3 : Int32) (sL : CS) (sX : CS) (sY : CS) (sN : CS) (sT : CS) (dc ds kc ks : Nat) , C_Lex_readName_15 N  n x1 x2 x3 sL sX sY sN sT = some ((r, u), (dc, ds)) → ∀ (hdc : kc + dc ≤ DC) (hds : ks + ds ≤ DS) (b : Nat → Nat) (H : Heap) (locs : List Loc) (hW : WdC D A s (w_Lex dA o b sL sX sY sN sT) H locs) (ls : Array Slot) (hl : lv_has ls 4 [(0, .ref (o 80)), (1, .int x1), (2, .int x2), (3, .int x3)]), W p l e (rmC 4 146 DC DS) s m args below meth c H locs kc ks (MQ below (QC D A (fun Ws' ov => ∃ b' : Nat → Nat, Ws' = (w_Lex dA o b' u.1 sX sY u.2.1 u.2.2) ∧ ov = (some (.int r)))) args s DC DS A) (F0 m 15 ls []) := by
  have hx := C.1.1
  have hb := C.1.2.1
  have hown := C.1.2.2.2.2.1
  have hT := C.1.2.2.2.2.2.1
  intro n
  induction n with
  | zero => intro x1 x2 x3 sL sX sY sN sT dc ds kc ks hM; cases hM
  | succ n hrec15 =>
    intro x1 x2 x3 sL sX sY sN sT dc ds kc ks hM hdc hds b H locs hW ls hl
    rw [C_Lex_readName_15] at hM
    refine lv_iload_n (pc := 15) hx hb dC_Lex_readName_15 rfl (lv_at hl 3 rfl) ?_
    refine lv_if_le (pc := 16) (tgt := 60) hx hb dC_Lex_readName_16 (by decide) (fun hc => ?_) (fun hc => ?_)
    · replace hM := it_t hc hM
      exact bC_Lex_readName_60 N  C  _ _ _ _ _ _ _ _ _ _ hM (by omega) (by omega) _ _ _ hW _ (lv_sub hl [0, 1] rfl)
    · replace hM := it_f hc hM
      refine lv_aload_n (pc := 19) hx hb dC_Lex_readName_19 rfl (lv_at hl 0 rfl) ?_
      refine x_getC (pc := 20) C hW 0 rfl (ci := 6) rfl i_Lex 4 (by decide) qc_442 rfl rfl dC_Lex_readName_20 ?_
      refine lv_iload_n (pc := 23) hx hb dC_Lex_readName_23 rfl (lv_at hl 2 rfl) ?_
      refine lv_icmp_ge (pc := 24) (tgt := 60) hx hb dC_Lex_readName_24 (by decide) (fun hc => ?_) (fun hc => ?_)
      · replace hM := it_t hc hM
        exact bC_Lex_readName_60 N  C  _ _ _ _ _ _ _ _ _ _ hM (by omega) (by omega) _ _ _ hW _ (lv_sub hl [0, 1] rfl)
      · replace hM := it_f hc hM
        refine lv_aload_n (pc := 27) hx hb dC_Lex_readName_27 rfl (lv_at hl 0 rfl) ?_
        refine x_getC (pc := 28) C hW 0 rfl (ci := 6) rfl i_Lex 0 (by decide) qc_438 rfl rfl dC_Lex_readName_28 ?_
        refine lv_aload_n (pc := 31) hx hb dC_Lex_readName_31 rfl (lv_at hl 0 rfl) ?_
        refine x_getC (pc := 32) C hW 0 rfl (ci := 6) rfl i_Lex 4 (by decide) qc_442 rfl rfl dC_Lex_readName_32 ?_
        obtain ⟨r1, hr1, hM⟩ := cr_some hM
        refine x_callQ (pc := 35) (n' := 29) (ov := some (.int r1)) C hW (kC_Row_get l D dA z (fun _ => o 0) (fun _ => b 0)  (sL.1 0) sX hr1) [1, 2, 0, 3, 4, 5, 6, 7, 8, 9, 10, 11, 12, 13, 14, 15, 16, 17, 18, 19, 20, 21, 22, 23, 24, 25, 26, 27, 28] rfl (by decide +kernel) rfl (ci := 1) rfl (q0 := 1) rfl gC_Lex_52 ⟨rfl, by decide, by decide, by decide +kernel⟩ ⟨Nat.le_of_ble_eq_true rfl, Nat.le_of_ble_eq_true rfl⟩ ⟨show _ ≤ DC by omega, show _ ≤ DS by omega⟩ (As := [.int (sL.1 0)]) (n := 1) rfl hl.1 rfl (Nat.le_of_ble_eq_true rfl) dC_Lex_readName_35 ?_
        obtain ⟨r2, hr2, hM⟩ := cr_some hM
        refine x_callU (pc := 38) (ov := some (.int r2)) C.1 (kC_Lex_isOfName l  r1 hr2) qc_1038 qc_1036 qc_1037 qc_19 ⟨by decide, by decide, by decide +kernel⟩ ⟨rfl, rfl⟩ ⟨Nat.le_of_ble_eq_true rfl, Nat.le_of_ble_eq_true rfl⟩ ⟨show _ ≤ DC by omega, show _ ≤ DS by omega⟩ (As := [.int r1]) (n := 1) rfl hl.1 rfl (Nat.le_of_ble_eq_true rfl) dC_Lex_readName_38 ?_
        refine lv_if_eq (pc := 41) (tgt := 60) hx hb dC_Lex_readName_41 (by decide) (fun hc => ?_) (fun hc => ?_)
        · replace hM := it_t hc hM
          exact bC_Lex_readName_60 N  C  _ _ _ _ _ _ _ _ _ _ hM (by omega) (by omega) _ _ _ hW _ (lv_sub hl [0, 1] rfl)
        · replace hM := it_f hc hM
          refine lv_aload_n (pc := 44) hx hb dC_Lex_readName_44 rfl (lv_at hl 0 rfl) ?_
          refine lv_dup (pc := 45) hx hb dC_Lex_readName_45 rfl ?_
          refine x_getC (pc := 46) C hW 0 rfl (ci := 6) rfl i_Lex 4 (by decide) qc_442 rfl rfl dC_Lex_readName_46 ?_
          refine lv_iconst (pc := 49) (v := 1) hx hb dC_Lex_readName_49 (by decide) ?_
          refine lv_iadd (pc := 50) hx hb dC_Lex_readName_50 ?_
          refine x_putC (pc := 51) (ty := .int) (Ws' := (w_Lex dA o b (cF sL 0 ((sL.1 0) + (1 : Int32))) sX sY sN sT)) C hW 0 rfl (ci := 6) rfl i_Lex tok_Lex n_Lex 4 (by decide) qc_442 rfl rfl (by decide +kernel) rfl rfl (Nat.le_of_ble_eq_true rfl) rfl dC_Lex_readName_51 (fun H locs hW => ?_)
          obtain ⟨sL3, esL3, hM⟩ := bnd_some hM
          rw [← esL3] at hW
          refine lv_iinc (pc := 54) (v := x3 + (-1 : Int32)) (lv' := [(3, .int (x3 + (-1 : Int32))), (0, .ref (o 80)), (1, .int x1), (2, .int x2)]) hx hb dC_Lex_readName_54 hl (k := 3) rfl rfl (by decide) rfl (fun ls hl => ?_)
          refine lv_goto (pc := 57) (tgt := 15) hx hb dC_Lex_readName_57 (by decide) ?_
          exact hrec15 _ _ _ _ _ _ _ _ _ _ _ _ hM (by omega) (by omega) _ _ _ hW _ (lv_sub hl [1, 2, 3, 0] rfl)
def C_Lex_readName (N : Nat)  (sL : CS) (sX : CS) (sY : CS) (sN : CS) (sT : CS) : Option ((Int32 × (CS × CS × CS)) × (Nat × Nat)) :=
  C_Lex_readName_15 N  N (sL.1 0) (sX.1 0) (sX.1 0) sL sX sY sN sT
set_option maxHeartbeats 4000000 in
set_option maxRecDepth 100000 in
theorem bC_Lex_readName_0 (N : Nat)  {r : Int32} {u : CS × CS × CS} {DC DS : Nat} (C : CxC R_Lex p s m args meth c cC_Lex_readName 4 (some .boolean) D dA z A)  (sL : CS) (sX : CS) (sY : CS) (sN : CS) (sT : CS) (dc ds kc ks : Nat) (hM : C_Lex_readName N   sL sX sY sN sT = some ((r, u), (dc, ds))) (hdc : kc + dc ≤ DC) (hds : ks + ds ≤ DS) (b : Nat → Nat) (H : Heap) (locs : List Loc) (hW : WdC D A s (w_Lex dA o b sL sX sY sN sT) H locs) (ls : Array Slot) (hl : lv_has ls 4 [(0, .ref (o 80))]) : W p l e (rmC 4 146 DC DS) s m args below meth c H locs kc ks (MQ below (QC D A (fun Ws' ov => ∃ b' : Nat → Nat, Ws' = (w_Lex dA o b' u.1 sX sY u.2.1 u.2.2) ∧ ov = (some (.int r)))) args s DC DS A) (F0 m 0 ls []) := by
  have hx := C.1.1
  have hb := C.1.2.1
  have hown := C.1.2.2.2.2.1
  have hT := C.1.2.2.2.2.2.1
  unfold C_Lex_readName at hM
  refine lv_aload_n (pc := 0) hx hb dC_Lex_readName_0 rfl (lv_at hl 0 rfl) ?_
  refine x_getC (pc := 1) C hW 0 rfl (ci := 6) rfl i_Lex 4 (by decide) qc_442 rfl rfl dC_Lex_readName_1 ?_
  refine lv_istore_n (pc := 4) (lv' := [(1, .int (sL.1 0)), (0, .ref (o 80))]) hx hb dC_Lex_readName_4 rfl hl (by decide) rfl (fun ls hl => ?_)
  refine lv_aload_n (pc := 5) hx hb dC_Lex_readName_5 rfl (lv_at hl 1 rfl) ?_
  refine x_getC (pc := 6) C hW 0 rfl (ci := 6) rfl i_Lex 0 (by decide) qc_438 rfl rfl dC_Lex_readName_6 ?_
  refine x_getC (pc := 9) C hW 1 rfl (ci := 1) rfl i_Row 0 (by decide) qc_55 rfl rfl dC_Lex_readName_9 ?_
  refine lv_istore_n (pc := 12) (lv' := [(2, .int (sX.1 0)), (1, .int (sL.1 0)), (0, .ref (o 80))]) hx hb dC_Lex_readName_12 rfl hl (by decide) rfl (fun ls hl => ?_)
  refine lv_iload_n (pc := 13) hx hb dC_Lex_readName_13 rfl (lv_at hl 0 rfl) ?_
  refine lv_istore_n (pc := 14) (lv' := [(3, .int (sX.1 0)), (2, .int (sX.1 0)), (1, .int (sL.1 0)), (0, .ref (o 80))]) hx hb dC_Lex_readName_14 rfl hl (by decide) rfl (fun ls hl => ?_)
  exact bC_Lex_readName_15 N  C  N _ _ _ _ _ _ _ _ _ _ _ _ hM (by omega) (by omega) _ _ _ hW _ (lv_sub hl [3, 2, 1, 0] rfl)
theorem kC_Lex_readName (l : Launch) (D : va_G) (dA : Nat → ClassId) (z : Nat → Nat) (o b : Nat → Nat) (N : Nat)  (sL : CS) (sX : CS) (sY : CS) (sN : CS) (sT : CS) {r : Int32} {u : CS × CS × CS} {dc ds : Nat} (hM : C_Lex_readName N  sL sX sY sN sT = some ((r, u), (dc, ds))) : KC l D dA z yC_Lex_readName cC_Lex_readName 4 (some .boolean) 4 146 dc ds (w_Lex dA o b sL sX sY sN sT) [.ref (o 80)] (fun Ws' ov => ∃ b' : Nat → Nat, Ws' = (w_Lex dA o b' u.1 sX sY u.2.1 u.2.2) ∧ ov = (some (.int r))) := x_enterC (by decide +kernel) (Nat.le_of_ble_eq_true rfl) (fun p e s m args below meth c A C _ hW ls hl => bC_Lex_readName_0 N C  sL sX sY sN sT dc ds 0 0 hM (by omega) (by omega) b s.heap [] hW ls hl)
def C_Lex_readNear_53 (t1 : Int32) (t2 : Int32) (t3 : Int32) (sL : CS) (sX : CS) (sY : CS) (sN : CS) (sT : CS) : Option ((Int32 × (CS × CS)) × (Nat × Nat)) :=
  ct (C_Tok_add  t1 (t2 + t3) (0 : Int32) sT) (fun r1 u2 => bnd (cF sL 0 ((sL.1 0) + (2 : Int32))) (fun sL8 => some (((1 : Int32), (sL8, u2)), (0, 0))))
set_option maxHeartbeats 4000000 in
set_option maxRecDepth 100000 in
theorem bC_Lex_readNear_53  {r : Int32} {u : CS × CS} {DC DS : Nat} (C : CxC R_Lex p s m args meth c cC_Lex_readNear 2 (some .boolean) D dA z A) (t1 : Int32) (t2 : Int32) (t3 : Int32) (sL : CS) (sX : CS) (sY : CS) (sN : CS) (sT : CS) (dc ds kc ks : Nat) (hM : C_Lex_readNear_53  t1 t2 t3 sL sX sY sN sT = some ((r, u), (dc, ds))) (hdc : kc + dc ≤ DC) (hds : ks + ds ≤ DS) (b : Nat → Nat) (H : Heap) (locs : List Loc) (hW : WdC D A s (w_Lex dA o b sL sX sY sN sT) H locs) (ls : Array Slot) (hl : lv_has ls 2 [(0, .ref (o 80))]) : W p l e (rmC 3 126 DC DS) s m args below meth c H locs kc ks (MQ below (QC D A (fun Ws' ov => ∃ b' : Nat → Nat, Ws' = (w_Lex dA o b' u.1 sX sY sN u.2) ∧ ov = (some (.int r)))) args s DC DS A) (F0 m 53 ls [.int t3, .int t2, .int t1, .ref (o 32)]) := by
  have hx := C.1.1
  have hb := C.1.2.1
  have hown := C.1.2.2.2.2.1
  have hT := C.1.2.2.2.2.2.1
  unfold C_Lex_readNear_53 at hM
  refine lv_iadd (pc := 53) hx hb dC_Lex_readNear_53 ?_
  refine lv_iconst (pc := 54) (v := 0) hx hb dC_Lex_readNear_54 (by decide) ?_
  obtain ⟨r1, u2, da3, ea4, db5, eb6, hr1, hM, hqda3, hpda3⟩ := ct_some hM
  refine x_callC (pc := 55) (n' := 29) C hW (kC_Tok_add l D dA z o b  t1 (t2 + t3) (0 : Int32) sT hr1) [25, 26, 27, 28, 0, 1, 2, 3, 4, 5, 6, 7, 8, 9, 10, 11, 12, 13, 14, 15, 16, 17, 18, 19, 20, 21, 22, 23, 24] rfl (by decide +kernel) rfl (ci := 3) rfl (q0 := 25) rfl gC_Lex_48 ⟨rfl, by decide, by decide, by decide +kernel⟩ ⟨Nat.le_of_ble_eq_true rfl, Nat.le_of_ble_eq_true rfl⟩ ⟨show _ + da3 ≤ DC by omega, show _ + ea4 ≤ DS by omega⟩ (As := [.int t1, .int (t2 + t3), .int (0 : Int32)]) (n := 3) rfl hl.1 rfl (Nat.le_of_ble_eq_true rfl) dC_Lex_readNear_55 (fun Wc' ov H locs hPo hWn => ?_)
  obtain ⟨b7, rfl, rfl⟩ := hPo
  have hW := hWn (w_Lex dA o (mxs [2] b7 b) sL sX sY sN u2) rfl rfl
  generalize mxs [2] b7 b = b at hW
  refine lv_aload_n (pc := 58) hx hb dC_Lex_readNear_58 rfl (lv_at hl 0 rfl) ?_
  refine lv_dup (pc := 59) hx hb dC_Lex_readNear_59 rfl ?_
  refine x_getC (pc := 60) C hW 0 rfl (ci := 6) rfl i_Lex 4 (by decide) qc_442 rfl rfl dC_Lex_readNear_60 ?_
  refine lv_iconst (pc := 63) (v := 2) hx hb dC_Lex_readNear_63 (by decide) ?_
  refine lv_iadd (pc := 64) hx hb dC_Lex_readNear_64 ?_
  refine x_putC (pc := 65) (ty := .int) (Ws' := (w_Lex dA o b (cF sL 0 ((sL.1 0) + (2 : Int32))) sX sY sN u2)) C hW 0 rfl (ci := 6) rfl i_Lex tok_Lex n_Lex 4 (by decide) qc_442 rfl rfl (by decide +kernel) rfl rfl (Nat.le_of_ble_eq_true rfl) rfl dC_Lex_readNear_65 (fun H locs hW => ?_)
  obtain ⟨sL8, esL8, hM⟩ := bnd_some hM
  rw [← esL8] at hW
  refine lv_iconst (pc := 68) (v := 1) hx hb dC_Lex_readNear_68 (by decide) ?_
  obtain ⟨rfl, rfl, rfl, rfl⟩ := sm_q hM
  exact x_retCz (pc := 69) C rfl rfl hW ⟨_, rfl, rfl⟩ (by omega) (by omega) dC_Lex_readNear_69
def C_Lex_readNear (x1 : Int32) (sL : CS) (sX : CS) (sY : CS) (sN : CS) (sT : CS) : Option ((Int32 × (CS × CS)) × (Nat × Nat)) :=
  cr (C_Row_get  ((sL.1 0) + (2 : Int32)) sX) (fun r1 => cr (C_Lex_isOfName  r1) (fun r2 => (if r2 = 0 then cr (C_Row_get  (sL.1 0) sX) (fun r3 => (if x1 = (102 : Int32) then C_Lex_readNear_53  (5 : Int32) ((2 : Int32) * (r3 - (48 : Int32))) (1 : Int32) sL sX sY sN sT else C_Lex_readNear_53  (5 : Int32) ((2 : Int32) * (r3 - (48 : Int32))) (0 : Int32) sL sX sY sN sT)) else some (((0 : Int32), (sL, sT)), (0, 0)))))
set_option maxHeartbeats 4000000 in
set_option maxRecDepth 100000 in
theorem bC_Lex_readNear_0  {r : Int32} {u : CS × CS} {DC DS : Nat} (C : CxC R_Lex p s m args meth c cC_Lex_readNear 2 (some .boolean) D dA z A) (x1 : Int32) (sL : CS) (sX : CS) (sY : CS) (sN : CS) (sT : CS) (dc ds kc ks : Nat) (hM : C_Lex_readNear  x1 sL sX sY sN sT = some ((r, u), (dc, ds))) (hdc : kc + dc ≤ DC) (hds : ks + ds ≤ DS) (b : Nat → Nat) (H : Heap) (locs : List Loc) (hW : WdC D A s (w_Lex dA o b sL sX sY sN sT) H locs) (ls : Array Slot) (hl : lv_has ls 2 [(0, .ref (o 80)), (1, .int x1)]) : W p l e (rmC 3 126 DC DS) s m args below meth c H locs kc ks (MQ below (QC D A (fun Ws' ov => ∃ b' : Nat → Nat, Ws' = (w_Lex dA o b' u.1 sX sY sN u.2) ∧ ov = (some (.int r)))) args s DC DS A) (F0 m 0 ls []) := by
  have hx := C.1.1
  have hb := C.1.2.1
  have hown := C.1.2.2.2.2.1
  have hT := C.1.2.2.2.2.2.1
  unfold C_Lex_readNear at hM
  refine lv_aload_n (pc := 0) hx hb dC_Lex_readNear_0 rfl (lv_at hl 0 rfl) ?_
  refine x_getC (pc := 1) C hW 0 rfl (ci := 6) rfl i_Lex 0 (by decide) qc_438 rfl rfl dC_Lex_readNear_1 ?_
  refine lv_aload_n (pc := 4) hx hb dC_Lex_readNear_4 rfl (lv_at hl 0 rfl) ?_
  refine x_getC (pc := 5) C hW 0 rfl (ci := 6) rfl i_Lex 4 (by decide) qc_442 rfl rfl dC_Lex_readNear_5 ?_
  refine lv_iconst (pc := 8) (v := 2) hx hb dC_Lex_readNear_8 (by decide) ?_
  refine lv_iadd (pc := 9) hx hb dC_Lex_readNear_9 ?_
  obtain ⟨r1, hr1, hM⟩ := cr_some hM
  refine x_callQ (pc := 10) (n' := 29) (ov := some (.int r1)) C hW (kC_Row_get l D dA z (fun _ => o 0) (fun _ => b 0)  ((sL.1 0) + (2 : Int32)) sX hr1) [1, 2, 0, 3, 4, 5, 6, 7, 8, 9, 10, 11, 12, 13, 14, 15, 16, 17, 18, 19, 20, 21, 22, 23, 24, 25, 26, 27, 28] rfl (by decide +kernel) rfl (ci := 1) rfl (q0 := 1) rfl gC_Lex_52 ⟨rfl, by decide, by decide, by decide +kernel⟩ ⟨Nat.le_of_ble_eq_true rfl, Nat.le_of_ble_eq_true rfl⟩ ⟨show _ ≤ DC by omega, show _ ≤ DS by omega⟩ (As := [.int ((sL.1 0) + (2 : Int32))]) (n := 1) rfl hl.1 rfl (Nat.le_of_ble_eq_true rfl) dC_Lex_readNear_10 ?_
  obtain ⟨r2, hr2, hM⟩ := cr_some hM
  refine x_callU (pc := 13) (ov := some (.int r2)) C.1 (kC_Lex_isOfName l  r1 hr2) qc_1038 qc_1036 qc_1037 qc_19 ⟨by decide, by decide, by decide +kernel⟩ ⟨rfl, rfl⟩ ⟨Nat.le_of_ble_eq_true rfl, Nat.le_of_ble_eq_true rfl⟩ ⟨show _ ≤ DC by omega, show _ ≤ DS by omega⟩ (As := [.int r1]) (n := 1) rfl hl.1 rfl (Nat.le_of_ble_eq_true rfl) dC_Lex_readNear_13 ?_
  refine lv_if_eq (pc := 16) (tgt := 21) hx hb dC_Lex_readNear_16 (by decide) (fun hc => ?_) (fun hc => ?_)
  · replace hM := it_t hc hM
    refine lv_aload_n (pc := 21) hx hb dC_Lex_readNear_21 rfl (lv_at hl 0 rfl) ?_
    refine x_getC (pc := 22) C hW 0 rfl (ci := 6) rfl i_Lex 2 (by decide) qc_440 rfl rfl dC_Lex_readNear_22 ?_
    refine lv_iconst (pc := 25) (v := 5) hx hb dC_Lex_readNear_25 (by decide) ?_
    refine lv_iconst (pc := 26) (v := 2) hx hb dC_Lex_readNear_26 (by decide) ?_
    refine lv_aload_n (pc := 27) hx hb dC_Lex_readNear_27 rfl (lv_at hl 0 rfl) ?_
    refine x_getC (pc := 28) C hW 0 rfl (ci := 6) rfl i_Lex 0 (by decide) qc_438 rfl rfl dC_Lex_readNear_28 ?_
    refine lv_aload_n (pc := 31) hx hb dC_Lex_readNear_31 rfl (lv_at hl 0 rfl) ?_
    refine x_getC (pc := 32) C hW 0 rfl (ci := 6) rfl i_Lex 4 (by decide) qc_442 rfl rfl dC_Lex_readNear_32 ?_
    obtain ⟨r3, hr3, hM⟩ := cr_some hM
    refine x_callQ (pc := 35) (n' := 29) (ov := some (.int r3)) C hW (kC_Row_get l D dA z (fun _ => o 0) (fun _ => b 0)  (sL.1 0) sX hr3) [1, 2, 0, 3, 4, 5, 6, 7, 8, 9, 10, 11, 12, 13, 14, 15, 16, 17, 18, 19, 20, 21, 22, 23, 24, 25, 26, 27, 28] rfl (by decide +kernel) rfl (ci := 1) rfl (q0 := 1) rfl gC_Lex_52 ⟨rfl, by decide, by decide, by decide +kernel⟩ ⟨Nat.le_of_ble_eq_true rfl, Nat.le_of_ble_eq_true rfl⟩ ⟨show _ ≤ DC by omega, show _ ≤ DS by omega⟩ (As := [.int (sL.1 0)]) (n := 1) rfl hl.1 rfl (Nat.le_of_ble_eq_true rfl) dC_Lex_readNear_35 ?_
    refine lv_bipush (pc := 38) (v := 48) hx hb dC_Lex_readNear_38 (by decide) ?_
    refine lv_isub (pc := 40) hx hb dC_Lex_readNear_40 ?_
    refine lv_imul (pc := 41) hx hb dC_Lex_readNear_41 ?_
    refine lv_iload_n (pc := 42) hx hb dC_Lex_readNear_42 rfl (lv_at hl 1 rfl) ?_
    refine lv_bipush (pc := 43) (v := 102) hx hb dC_Lex_readNear_43 (by decide) ?_
    refine lv_icmp_ne (pc := 45) (tgt := 52) hx hb dC_Lex_readNear_45 (by decide) (fun hc => ?_) (fun hc => ?_)
    · replace hM := it_f hc hM
      refine lv_iconst (pc := 52) (v := 0) hx hb dC_Lex_readNear_52 (by decide) ?_
      exact bC_Lex_readNear_53  C  _ _ _ _ _ _ _ _ _ _ _ _ hM (by omega) (by omega) _ _ _ hW _ (lv_sub hl [0] rfl)
    · replace hM := it_t hc hM
      refine lv_iconst (pc := 48) (v := 1) hx hb dC_Lex_readNear_48 (by decide) ?_
      refine lv_goto (pc := 49) (tgt := 53) hx hb dC_Lex_readNear_49 (by decide) ?_
      exact bC_Lex_readNear_53  C  _ _ _ _ _ _ _ _ _ _ _ _ hM (by omega) (by omega) _ _ _ hW _ (lv_sub hl [0] rfl)
  · replace hM := it_f hc hM
    refine lv_iconst (pc := 19) (v := 0) hx hb dC_Lex_readNear_19 (by decide) ?_
    obtain ⟨rfl, rfl, rfl, rfl⟩ := sm_q hM
    exact x_retCz (pc := 20) C rfl rfl hW ⟨_, rfl, rfl⟩ (by omega) (by omega) dC_Lex_readNear_20
theorem kC_Lex_readNear (l : Launch) (D : va_G) (dA : Nat → ClassId) (z : Nat → Nat) (o b : Nat → Nat) (x1 : Int32) (sL : CS) (sX : CS) (sY : CS) (sN : CS) (sT : CS) {r : Int32} {u : CS × CS} {dc ds : Nat} (hM : C_Lex_readNear x1 sL sX sY sN sT = some ((r, u), (dc, ds))) : KC l D dA z yC_Lex_readNear cC_Lex_readNear 2 (some .boolean) 3 126 dc ds (w_Lex dA o b sL sX sY sN sT) [.ref (o 80), .int x1] (fun Ws' ov => ∃ b' : Nat → Nat, Ws' = (w_Lex dA o b' u.1 sX sY sN u.2) ∧ ov = (some (.int r))) := x_enterC (by decide +kernel) (Nat.le_of_ble_eq_true rfl) (fun p e s m args below meth c A C _ hW ls hl => bC_Lex_readNear_0 C x1 sL sX sY sN sT dc ds 0 0 hM (by omega) (by omega) b s.heap [] hW ls hl)
def C_Lex_readDigits_128 (N : Nat)  (sL : CS) (sX : CS) (sY : CS) (sN : CS) (sT : CS) : Option ((Int32 × (CS × CS)) × (Nat × Nat)) :=
  some (((0 : Int32), (sL, sT)), (0, 0))
set_option maxHeartbeats 4000000 in
set_option maxRecDepth 100000 in
theorem bC_Lex_readDigits_128 (N : Nat)  {r : Int32} {u : CS × CS} {DC DS : Nat} (C : CxC R_Lex p s m args meth c cC_Lex_readDigits 7 (some .boolean) D dA z A)  (sL : CS) (sX : CS) (sY : CS) (sN : CS) (sT : CS) (dc ds kc ks : Nat) (hM : C_Lex_readDigits_128 N   sL sX sY sN sT = some ((r, u), (dc, ds))) (hdc : kc + dc ≤ DC) (hds : ks + ds ≤ DS) (b : Nat → Nat) (H : Heap) (locs : List Loc) (hW : WdC D A s (w_Lex dA o b sL sX sY sN sT) H locs) (ls : Array Slot) (hl : lv_has ls 7 []) : W p l e (rmC 3 126 DC DS) s m args below meth c H locs kc ks (MQ below (QC D A (fun Ws' ov => ∃ b' : Nat → Nat, Ws' = (w_Lex dA o b' u.1 sX sY sN u.2) ∧ ov = (some (.int r)))) args s DC DS A) (F0 m 128 ls []) := by
  have hx := C.1.1
  have hb := C.1.2.1
  have hown := C.1.2.2.2.2.1
  have hT := C.1.2.2.2.2.2.1
  unfold C_Lex_readDigits_128 at hM
  refine lv_iconst (pc := 128) (v := 0) hx hb dC_Lex_readDigits_128 (by decide) ?_
  obtain ⟨rfl, rfl, rfl, rfl⟩ := sm_q hM
  exact x_retCz (pc := 129) C rfl rfl hW ⟨_, rfl, rfl⟩ (by omega) (by omega) dC_Lex_readDigits_129
def C_Lex_readDigits_155 (N : Nat) (z3 : Int64) (t1 : Int32) (sL : CS) (sX : CS) (sY : CS) (sN : CS) (sT : CS) : Option ((Int32 × (CS × CS)) × (Nat × Nat)) :=
  ct (C_Tok_add  t1 z3.toInt32 (0 : Int32) sT) (fun r1 u2 => some (((1 : Int32), (sL, u2)), (0, 0)))
set_option maxHeartbeats 4000000 in
set_option maxRecDepth 100000 in
theorem bC_Lex_readDigits_155 (N : Nat)  {r : Int32} {u : CS × CS} {DC DS : Nat} (C : CxC R_Lex p s m args meth c cC_Lex_readDigits 7 (some .boolean) D dA z A) (z3 : Int64) (t1 : Int32) (sL : CS) (sX : CS) (sY : CS) (sN : CS) (sT : CS) (dc ds kc ks : Nat) (hM : C_Lex_readDigits_155 N  z3 t1 sL sX sY sN sT = some ((r, u), (dc, ds))) (hdc : kc + dc ≤ DC) (hds : ks + ds ≤ DS) (b : Nat → Nat) (H : Heap) (locs : List Loc) (hW : WdC D A s (w_Lex dA o b sL sX sY sN sT) H locs) (ls : Array Slot) (hl : lv_has ls 7 [(3, .long z3)]) : W p l e (rmC 3 126 DC DS) s m args below meth c H locs kc ks (MQ below (QC D A (fun Ws' ov => ∃ b' : Nat → Nat, Ws' = (w_Lex dA o b' u.1 sX sY sN u.2) ∧ ov = (some (.int r)))) args s DC DS A) (F0 m 155 ls [.int t1, .ref (o 32)]) := by
  have hx := C.1.1
  have hb := C.1.2.1
  have hown := C.1.2.2.2.2.1
  have hT := C.1.2.2.2.2.2.1
  unfold C_Lex_readDigits_155 at hM
  refine lv_lload_n (pc := 155) hx hb dC_Lex_readDigits_155 rfl (lv_at hl 0 rfl) ?_
  refine lv_l2i (pc := 156) (v := z3.toInt32) hx hb dC_Lex_readDigits_156 rfl ?_
  refine lv_iconst (pc := 157) (v := 0) hx hb dC_Lex_readDigits_157 (by decide) ?_
  obtain ⟨r1, u2, da3, ea4, db5, eb6, hr1, hM, hqda3, hpda3⟩ := ct_some hM
  refine x_callC (pc := 158) (n' := 29) C hW (kC_Tok_add l D dA z o b  t1 z3.toInt32 (0 : Int32) sT hr1) [25, 26, 27, 28, 0, 1, 2, 3, 4, 5, 6, 7, 8, 9, 10, 11, 12, 13, 14, 15, 16, 17, 18, 19, 20, 21, 22, 23, 24] rfl (by decide +kernel) rfl (ci := 3) rfl (q0 := 25) rfl gC_Lex_48 ⟨rfl, by decide, by decide, by decide +kernel⟩ ⟨Nat.le_of_ble_eq_true rfl, Nat.le_of_ble_eq_true rfl⟩ ⟨show _ + da3 ≤ DC by omega, show _ + ea4 ≤ DS by omega⟩ (As := [.int t1, .int z3.toInt32, .int (0 : Int32)]) (n := 3) rfl hl.1 rfl (Nat.le_of_ble_eq_true rfl) dC_Lex_readDigits_158 (fun Wc' ov H locs hPo hWn => ?_)
  obtain ⟨b7, rfl, rfl⟩ := hPo
  have hW := hWn (w_Lex dA o (mxs [2] b7 b) sL sX sY sN u2) rfl rfl
  generalize mxs [2] b7 b = b at hW
  refine lv_iconst (pc := 161) (v := 1) hx hb dC_Lex_readDigits_161 (by decide) ?_
  obtain ⟨rfl, rfl, rfl, rfl⟩ := sm_q hM
  exact x_retCz (pc := 162) C rfl rfl hW ⟨_, rfl, rfl⟩ (by omega) (by omega) dC_Lex_readDigits_162
def C_Lex_readDigits_154 (N : Nat) (z3 : Int64) (sL : CS) (sX : CS) (sY : CS) (sN : CS) (sT : CS) : Option ((Int32 × (CS × CS)) × (Nat × Nat)) :=
  C_Lex_readDigits_155 N  z3 (3 : Int32) sL sX sY sN sT
set_option maxHeartbeats 4000000 in
set_option maxRecDepth 100000 in
theorem bC_Lex_readDigits_154 (N : Nat)  {r : Int32} {u : CS × CS} {DC DS : Nat} (C : CxC R_Lex p s m args meth c cC_Lex_readDigits 7 (some .boolean) D dA z A) (z3 : Int64) (sL : CS) (sX : CS) (sY : CS) (sN : CS) (sT : CS) (dc ds kc ks : Nat) (hM : C_Lex_readDigits_154 N  z3 sL sX sY sN sT = some ((r, u), (dc, ds))) (hdc : kc + dc ≤ DC) (hds : ks + ds ≤ DS) (b : Nat → Nat) (H : Heap) (locs : List Loc) (hW : WdC D A s (w_Lex dA o b sL sX sY sN sT) H locs) (ls : Array Slot) (hl : lv_has ls 7 [(3, .long z3)]) : W p l e (rmC 3 126 DC DS) s m args below meth c H locs kc ks (MQ below (QC D A (fun Ws' ov => ∃ b' : Nat → Nat, Ws' = (w_Lex dA o b' u.1 sX sY sN u.2) ∧ ov = (some (.int r)))) args s DC DS A) (F0 m 154 ls [.ref (o 32)]) := by
  have hx := C.1.1
  have hb := C.1.2.1
  have hown := C.1.2.2.2.2.1
  have hT := C.1.2.2.2.2.2.1
  unfold C_Lex_readDigits_154 at hM
  refine lv_iconst (pc := 154) (v := 3) hx hb dC_Lex_readDigits_154 (by decide) ?_
  exact bC_Lex_readDigits_155 N  C  _ _ _ _ _ _ _ _ _ _ _ hM (by omega) (by omega) _ _ _ hW _ (lv_sub hl [0] rfl)
def C_Lex_readDigits_95 (N : Nat) (x1 : Int32) (x2 : Int32) (z3 : Int64) (sL : CS) (sX : CS) (sY : CS) (sN : CS) (sT : CS) : Option ((Int32 × (CS × CS)) × (Nat × Nat)) :=
  (if (sL.1 0) = x2 then C_Lex_readDigits_128 N  sL sX sY sN sT else (if 0 ≤ (lg_cmp z3 (4294967296 : Int64)) then C_Lex_readDigits_128 N  sL sX sY sN sT else cr (C_Row_get  (sL.1 0) sX) (fun r1 => cr (C_Lex_isOfName  r1) (fun r2 => (if r2 = 0 then (if x1 = (10 : Int32) then (if ((sL.1 0) - x2) = (1 : Int32) then C_Lex_readDigits_155 N  z3 (4 : Int32) sL sX sY sN sT else C_Lex_readDigits_154 N  z3 sL sX sY sN sT) else C_Lex_readDigits_154 N  z3 sL sX sY sN sT) else C_Lex_readDigits_128 N  sL sX sY sN sT)))))
set_option maxHeartbeats 4000000 in
set_option maxRecDepth 100000 in
theorem bC_Lex_readDigits_95 (N : Nat)  {r : Int32} {u : CS × CS} {DC DS : Nat} (C : CxC R_Lex p s m args meth c cC_Lex_readDigits 7 (some .boolean) D dA z A) (x1 : Int32) (x2 : Int32) (z3 : Int64) (sL : CS) (sX : CS) (sY : CS) (sN : CS) (sT : CS) (dc ds kc ks : Nat) (hM : C_Lex_readDigits_95 N  x1 x2 z3 sL sX sY sN sT = some ((r, u), (dc, ds))) (hdc : kc + dc ≤ DC) (hds : ks + ds ≤ DS) (b : Nat → Nat) (H : Heap) (locs : List Loc) (hW : WdC D A s (w_Lex dA o b sL sX sY sN sT) H locs) (ls : Array Slot) (hl : lv_has ls 7 [(0, .ref (o 80)), (1, .int x1), (2, .int x2), (3, .long z3)]) : W p l e (rmC 3 126 DC DS) s m args below meth c H locs kc ks (MQ below (QC D A (fun Ws' ov => ∃ b' : Nat → Nat, Ws' = (w_Lex dA o b' u.1 sX sY sN u.2) ∧ ov = (some (.int r)))) args s DC DS A) (F0 m 95 ls []) := by
  have hx := C.1.1
  have hb := C.1.2.1
  have hown := C.1.2.2.2.2.1
  have hT := C.1.2.2.2.2.2.1
  unfold C_Lex_readDigits_95 at hM
  refine lv_aload_n (pc := 95) hx hb dC_Lex_readDigits_95 rfl (lv_at hl 0 rfl) ?_
  refine x_getC (pc := 96) C hW 0 rfl (ci := 6) rfl i_Lex 4 (by decide) qc_442 rfl rfl dC_Lex_readDigits_96 ?_
  refine lv_iload_n (pc := 99) hx hb dC_Lex_readDigits_99 rfl (lv_at hl 2 rfl) ?_
  refine lv_icmp_eq (pc := 100) (tgt := 128) hx hb dC_Lex_readDigits_100 (by decide) (fun hc => ?_) (fun hc => ?_)
  · replace hM := it_t hc hM
    exact bC_Lex_readDigits_128 N  C  _ _ _ _ _ _ _ _ _ hM (by omega) (by omega) _ _ _ hW _ (lv_sub hl [] rfl)
  · replace hM := it_f hc hM
    refine lv_lload_n (pc := 103) hx hb dC_Lex_readDigits_103 rfl (lv_at hl 3 rfl) ?_
    refine lv_ldc2 (pc := 104) (v := 4294967296) hx hb hown (hT _ qc_1032) dC_Lex_readDigits_104 ?_
    refine W.lcmp (pc := 107) hx hb dC_Lex_readDigits_107 ?_
    refine lv_if_ge (pc := 108) (tgt := 128) hx hb dC_Lex_readDigits_108 (by decide) (fun hc => ?_) (fun hc => ?_)
    · replace hM := it_t hc hM
      exact bC_Lex_readDigits_128 N  C  _ _ _ _ _ _ _ _ _ hM (by omega) (by omega) _ _ _ hW _ (lv_sub hl [] rfl)
    · replace hM := it_f hc hM
      refine lv_aload_n (pc := 111) hx hb dC_Lex_readDigits_111 rfl (lv_at hl 0 rfl) ?_
      refine x_getC (pc := 112) C hW 0 rfl (ci := 6) rfl i_Lex 0 (by decide) qc_438 rfl rfl dC_Lex_readDigits_112 ?_
      refine lv_aload_n (pc := 115) hx hb dC_Lex_readDigits_115 rfl (lv_at hl 0 rfl) ?_
      refine x_getC (pc := 116) C hW 0 rfl (ci := 6) rfl i_Lex 4 (by decide) qc_442 rfl rfl dC_Lex_readDigits_116 ?_
      obtain ⟨r1, hr1, hM⟩ := cr_some hM
      refine x_callQ (pc := 119) (n' := 29) (ov := some (.int r1)) C hW (kC_Row_get l D dA z (fun _ => o 0) (fun _ => b 0)  (sL.1 0) sX hr1) [1, 2, 0, 3, 4, 5, 6, 7, 8, 9, 10, 11, 12, 13, 14, 15, 16, 17, 18, 19, 20, 21, 22, 23, 24, 25, 26, 27, 28] rfl (by decide +kernel) rfl (ci := 1) rfl (q0 := 1) rfl gC_Lex_52 ⟨rfl, by decide, by decide, by decide +kernel⟩ ⟨Nat.le_of_ble_eq_true rfl, Nat.le_of_ble_eq_true rfl⟩ ⟨show _ ≤ DC by omega, show _ ≤ DS by omega⟩ (As := [.int (sL.1 0)]) (n := 1) rfl hl.1 rfl (Nat.le_of_ble_eq_true rfl) dC_Lex_readDigits_119 ?_
      obtain ⟨r2, hr2, hM⟩ := cr_some hM
      refine x_callU (pc := 122) (ov := some (.int r2)) C.1 (kC_Lex_isOfName l  r1 hr2) qc_1038 qc_1036 qc_1037 qc_19 ⟨by decide, by decide, by decide +kernel⟩ ⟨rfl, rfl⟩ ⟨Nat.le_of_ble_eq_true rfl, Nat.le_of_ble_eq_true rfl⟩ ⟨show _ ≤ DC by omega, show _ ≤ DS by omega⟩ (As := [.int r1]) (n := 1) rfl hl.1 rfl (Nat.le_of_ble_eq_true rfl) dC_Lex_readDigits_122 ?_
      refine lv_if_eq (pc := 125) (tgt := 130) hx hb dC_Lex_readDigits_125 (by decide) (fun hc => ?_) (fun hc => ?_)
      · replace hM := it_t hc hM
        refine lv_aload_n (pc := 130) hx hb dC_Lex_readDigits_130 rfl (lv_at hl 0 rfl) ?_
        refine x_getC (pc := 131) C hW 0 rfl (ci := 6) rfl i_Lex 2 (by decide) qc_440 rfl rfl dC_Lex_readDigits_131 ?_
        refine lv_iload_n (pc := 134) hx hb dC_Lex_readDigits_134 rfl (lv_at hl 1 rfl) ?_
        refine lv_bipush (pc := 135) (v := 10) hx hb dC_Lex_readDigits_135 (by decide) ?_
        refine lv_icmp_ne (pc := 137) (tgt := 154) hx hb dC_Lex_readDigits_137 (by decide) (fun hc => ?_) (fun hc => ?_)
        · replace hM := it_f hc hM
          exact bC_Lex_readDigits_154 N  C  _ _ _ _ _ _ _ _ _ _ hM (by omega) (by omega) _ _ _ hW _ (lv_sub hl [3] rfl)
        · replace hM := it_t hc hM
          refine lv_aload_n (pc := 140) hx hb dC_Lex_readDigits_140 rfl (lv_at hl 0 rfl) ?_
          refine x_getC (pc := 141) C hW 0 rfl (ci := 6) rfl i_Lex 4 (by decide) qc_442 rfl rfl dC_Lex_readDigits_141 ?_
          refine lv_iload_n (pc := 144) hx hb dC_Lex_readDigits_144 rfl (lv_at hl 2 rfl) ?_
          refine lv_isub (pc := 145) hx hb dC_Lex_readDigits_145 ?_
          refine lv_iconst (pc := 146) (v := 1) hx hb dC_Lex_readDigits_146 (by decide) ?_
          refine lv_icmp_ne (pc := 147) (tgt := 154) hx hb dC_Lex_readDigits_147 (by decide) (fun hc => ?_) (fun hc => ?_)
          · replace hM := it_f hc hM
            exact bC_Lex_readDigits_154 N  C  _ _ _ _ _ _ _ _ _ _ hM (by omega) (by omega) _ _ _ hW _ (lv_sub hl [3] rfl)
          · replace hM := it_t hc hM
            refine lv_iconst (pc := 150) (v := 4) hx hb dC_Lex_readDigits_150 (by decide) ?_
            refine lv_goto (pc := 151) (tgt := 155) hx hb dC_Lex_readDigits_151 (by decide) ?_
            exact bC_Lex_readDigits_155 N  C  _ _ _ _ _ _ _ _ _ _ _ hM (by omega) (by omega) _ _ _ hW _ (lv_sub hl [3] rfl)
      · replace hM := it_f hc hM
        exact bC_Lex_readDigits_128 N  C  _ _ _ _ _ _ _ _ _ hM (by omega) (by omega) _ _ _ hW _ (lv_sub hl [] rfl)
def C_Lex_readDigits_20 (N : Nat)  : Nat → Int32 → Int32 → Int64 → Int32 → Int32 → CS → CS → CS → CS → CS → Option ((Int32 × (CS × CS)) × (Nat × Nat))
  | 0 => fun _ _ _ _ _ _ _ _ _ _ => none
  | n + 1 => fun x1 x2 z3 x5 x6 sL sX sY sN sT => (if x6 ≤ 0 then C_Lex_readDigits_95 N  x1 x2 z3 sL sX sY sN sT else (if x5 ≤ (sL.1 0) then C_Lex_readDigits_95 N  x1 x2 z3 sL sX sY sN sT else cr (C_Row_get  (sL.1 0) sX) (fun r1 => cr (C_Lex_digit  r1) (fun r2 => (if x1 ≤ r2 then C_Lex_readDigits_95 N  x1 x2 z3 sL sX sY sN sT else cr (C_Row_get  (sL.1 0) sX) (fun r3 => cr (C_Lex_digit  r3) (fun r4 => bnd (jminl ((z3 * x1.toInt64) + r4.toInt64) (4294967296 : Int64)) (fun y5 => bnd (cF sL 0 ((sL.1 0) + (1 : Int32))) (fun sL6 => (C_Lex_readDigits_20 N  n) x1 x2 y5 x5 (x6 + (-1 : Int32)) sL6 sX sY sN sT)))))))))
set_option maxHeartbeats 4000000 in
set_option maxRecDepth 100000 in
theorem bC_Lex_readDigits_20 (N : Nat)  {r : Int32} {u : CS × CS} {DC DS : Nat} (C : CxC R_Lex p s m args meth c cC_Lex_readDigits 7 (some .boolean) D dA z A) : ∀ (n : Nat) (x1 : Int32) (x2 : Int32) (z3 : Int64) (x5 : Int32) (x6 : Int32) (sL : CS) (sX : CS) (sY : CS) (sN : CS) (sT : CS) (dc ds kc ks : Nat) , C_Lex_readDigits_20 N  n x1 x2 z3 x5 x6 sL sX sY sN sT = some ((r, u), (dc, ds)) → ∀ (hdc : kc + dc ≤ DC) (hds : ks + ds ≤ DS) (b : Nat → Nat) (H : Heap) (locs : List Loc) (hW : WdC D A s (w_Lex dA o b sL sX sY sN sT) H locs) (ls : Array Slot) (hl : lv_has ls 7 [(0, .ref (o 80)), (1, .int x1), (2, .int x2), (3, .long z3), (5, .int x5), (6, .int x6)]), W p l e (rmC 3 126 DC DS) s m args below meth c H locs kc ks (MQ below (QC D A (fun Ws' ov => ∃ b' : Nat → Nat, Ws' = (w_Lex dA o b' u.1 sX sY sN u.2) ∧ ov = (some (.int r)))) args s DC DS A) (F0 m 20 ls []) := by
  have hx := C.1.1
  have hb := C.1.2.1
  have hown := C.1.2.2.2.2.1
  have hT := C.1.2.2.2.2.2.1
  intro n
  induction n with
  | zero => intro x1 x2 z3 x5 x6 sL sX sY sN sT dc ds kc ks hM; cases hM
  | succ n hrec20 =>
    intro x1 x2 z3 x5 x6 sL sX sY sN sT dc ds kc ks hM hdc hds b H locs hW ls hl
    rw [C_Lex_readDigits_20] at hM
    refine lv_iload (pc := 20) hx hb dC_Lex_readDigits_20 (lv_at hl 5 rfl) ?_
    refine lv_if_le (pc := 22) (tgt := 95) hx hb dC_Lex_readDigits_22 (by decide) (fun hc => ?_) (fun hc => ?_)
    · replace hM := it_t hc hM
      exact bC_Lex_readDigits_95 N  C  _ _ _ _ _ _ _ _ _ _ _ _ hM (by omega) (by omega) _ _ _ hW _ (lv_sub hl [0, 1, 2, 3] rfl)
    · replace hM := it_f hc hM
      refine lv_aload_n (pc := 25) hx hb dC_Lex_readDigits_25 rfl (lv_at hl 0 rfl) ?_
      refine x_getC (pc := 26) C hW 0 rfl (ci := 6) rfl i_Lex 4 (by decide) qc_442 rfl rfl dC_Lex_readDigits_26 ?_
      refine lv_iload (pc := 29) hx hb dC_Lex_readDigits_29 (lv_at hl 4 rfl) ?_
      refine lv_icmp_ge (pc := 31) (tgt := 95) hx hb dC_Lex_readDigits_31 (by decide) (fun hc => ?_) (fun hc => ?_)
      · replace hM := it_t hc hM
        exact bC_Lex_readDigits_95 N  C  _ _ _ _ _ _ _ _ _ _ _ _ hM (by omega) (by omega) _ _ _ hW _ (lv_sub hl [0, 1, 2, 3] rfl)
      · replace hM := it_f hc hM
        refine lv_aload_n (pc := 34) hx hb dC_Lex_readDigits_34 rfl (lv_at hl 0 rfl) ?_
        refine x_getC (pc := 35) C hW 0 rfl (ci := 6) rfl i_Lex 0 (by decide) qc_438 rfl rfl dC_Lex_readDigits_35 ?_
        refine lv_aload_n (pc := 38) hx hb dC_Lex_readDigits_38 rfl (lv_at hl 0 rfl) ?_
        refine x_getC (pc := 39) C hW 0 rfl (ci := 6) rfl i_Lex 4 (by decide) qc_442 rfl rfl dC_Lex_readDigits_39 ?_
        obtain ⟨r1, hr1, hM⟩ := cr_some hM
        refine x_callQ (pc := 42) (n' := 29) (ov := some (.int r1)) C hW (kC_Row_get l D dA z (fun _ => o 0) (fun _ => b 0)  (sL.1 0) sX hr1) [1, 2, 0, 3, 4, 5, 6, 7, 8, 9, 10, 11, 12, 13, 14, 15, 16, 17, 18, 19, 20, 21, 22, 23, 24, 25, 26, 27, 28] rfl (by decide +kernel) rfl (ci := 1) rfl (q0 := 1) rfl gC_Lex_52 ⟨rfl, by decide, by decide, by decide +kernel⟩ ⟨Nat.le_of_ble_eq_true rfl, Nat.le_of_ble_eq_true rfl⟩ ⟨show _ ≤ DC by omega, show _ ≤ DS by omega⟩ (As := [.int (sL.1 0)]) (n := 1) rfl hl.1 rfl (Nat.le_of_ble_eq_true rfl) dC_Lex_readDigits_42 ?_
        obtain ⟨r2, hr2, hM⟩ := cr_some hM
        refine x_callU (pc := 45) (ov := some (.int r2)) C.1 (kC_Lex_digit l  r1 hr2) qc_1031 qc_1029 qc_1030 qc_19 ⟨by decide, by decide, by decide +kernel⟩ ⟨rfl, rfl⟩ ⟨Nat.le_of_ble_eq_true rfl, Nat.le_of_ble_eq_true rfl⟩ ⟨show _ ≤ DC by omega, show _ ≤ DS by omega⟩ (As := [.int r1]) (n := 1) rfl hl.1 rfl (Nat.le_of_ble_eq_true rfl) dC_Lex_readDigits_45 ?_
        refine lv_iload_n (pc := 48) hx hb dC_Lex_readDigits_48 rfl (lv_at hl 1 rfl) ?_
        refine lv_icmp_ge (pc := 49) (tgt := 95) hx hb dC_Lex_readDigits_49 (by decide) (fun hc => ?_) (fun hc => ?_)
        · replace hM := it_t hc hM
          exact bC_Lex_readDigits_95 N  C  _ _ _ _ _ _ _ _ _ _ _ _ hM (by omega) (by omega) _ _ _ hW _ (lv_sub hl [0, 1, 2, 3] rfl)
        · replace hM := it_f hc hM
          refine lv_lload_n (pc := 52) hx hb dC_Lex_readDigits_52 rfl (lv_at hl 3 rfl) ?_
          refine lv_iload_n (pc := 53) hx hb dC_Lex_readDigits_53 rfl (lv_at hl 1 rfl) ?_
          refine lv_i2l (pc := 54) (v := x1.toInt64) hx hb dC_Lex_readDigits_54 rfl ?_
          refine lv_lmul (pc := 55) hx hb dC_Lex_readDigits_55 ?_
          refine lv_aload_n (pc := 56) hx hb dC_Lex_readDigits_56 rfl (lv_at hl 0 rfl) ?_
          refine x_getC (pc := 57) C hW 0 rfl (ci := 6) rfl i_Lex 0 (by decide) qc_438 rfl rfl dC_Lex_readDigits_57 ?_
          refine lv_aload_n (pc := 60) hx hb dC_Lex_readDigits_60 rfl (lv_at hl 0 rfl) ?_
          refine x_getC (pc := 61) C hW 0 rfl (ci := 6) rfl i_Lex 4 (by decide) qc_442 rfl rfl dC_Lex_readDigits_61 ?_
          obtain ⟨r3, hr3, hM⟩ := cr_some hM
          refine x_callQ (pc := 64) (n' := 29) (ov := some (.int r3)) C hW (kC_Row_get l D dA z (fun _ => o 0) (fun _ => b 0)  (sL.1 0) sX hr3) [1, 2, 0, 3, 4, 5, 6, 7, 8, 9, 10, 11, 12, 13, 14, 15, 16, 17, 18, 19, 20, 21, 22, 23, 24, 25, 26, 27, 28] rfl (by decide +kernel) rfl (ci := 1) rfl (q0 := 1) rfl gC_Lex_52 ⟨rfl, by decide, by decide, by decide +kernel⟩ ⟨Nat.le_of_ble_eq_true rfl, Nat.le_of_ble_eq_true rfl⟩ ⟨show _ ≤ DC by omega, show _ ≤ DS by omega⟩ (As := [.int (sL.1 0)]) (n := 1) rfl hl.1 rfl (Nat.le_of_ble_eq_true rfl) dC_Lex_readDigits_64 ?_
          obtain ⟨r4, hr4, hM⟩ := cr_some hM
          refine x_callU (pc := 67) (ov := some (.int r4)) C.1 (kC_Lex_digit l  r3 hr4) qc_1031 qc_1029 qc_1030 qc_19 ⟨by decide, by decide, by decide +kernel⟩ ⟨rfl, rfl⟩ ⟨Nat.le_of_ble_eq_true rfl, Nat.le_of_ble_eq_true rfl⟩ ⟨show _ ≤ DC by omega, show _ ≤ DS by omega⟩ (As := [.int r3]) (n := 1) rfl hl.1 rfl (Nat.le_of_ble_eq_true rfl) dC_Lex_readDigits_67 ?_
          refine lv_i2l (pc := 70) (v := r4.toInt64) hx hb dC_Lex_readDigits_70 rfl ?_
          refine lv_ladd (pc := 71) hx hb dC_Lex_readDigits_71 ?_
          refine lv_ldc2 (pc := 72) (v := 4294967296) hx hb hown (hT _ qc_1032) dC_Lex_readDigits_72 ?_
          refine va_mmin_long (pc := 75) hx hb (C.1.2.2.1.trans hl.1.symm) hown (hT _ qc_1033) (hT _ qc_1034) (hT _ qc_5) (hT _ qc_1035) (Nat.le_of_ble_eq_true rfl) (Nat.le_of_ble_eq_true rfl) (show _ ≤ DC by omega) (show _ ≤ DS by omega) dC_Lex_readDigits_75 ?_
          refine x_setl (b := jminl ((z3 * x1.toInt64) + r4.toInt64) (4294967296 : Int64)) rfl ?_
          obtain ⟨y5, ey5, hM⟩ := bnd_some hM
          refine x_setl ey5 ?_
          refine lv_lstore_n (pc := 78) (lv' := [(3, .long y5), (0, .ref (o 80)), (1, .int x1), (2, .int x2), (5, .int x5), (6, .int x6)]) hx hb dC_Lex_readDigits_78 rfl hl (by decide) rfl (fun ls hl => ?_)
          refine lv_aload_n (pc := 79) hx hb dC_Lex_readDigits_79 rfl (lv_at hl 1 rfl) ?_
          refine lv_dup (pc := 80) hx hb dC_Lex_readDigits_80 rfl ?_
          refine x_getC (pc := 81) C hW 0 rfl (ci := 6) rfl i_Lex 4 (by decide) qc_442 rfl rfl dC_Lex_readDigits_81 ?_
          refine lv_iconst (pc := 84) (v := 1) hx hb dC_Lex_readDigits_84 (by decide) ?_
          refine lv_iadd (pc := 85) hx hb dC_Lex_readDigits_85 ?_
          refine x_putC (pc := 86) (ty := .int) (Ws' := (w_Lex dA o b (cF sL 0 ((sL.1 0) + (1 : Int32))) sX sY sN sT)) C hW 0 rfl (ci := 6) rfl i_Lex tok_Lex n_Lex 4 (by decide) qc_442 rfl rfl (by decide +kernel) rfl rfl (Nat.le_of_ble_eq_true rfl) rfl dC_Lex_readDigits_86 (fun H locs hW => ?_)
          obtain ⟨sL6, esL6, hM⟩ := bnd_some hM
          rw [← esL6] at hW
          refine lv_iinc (pc := 89) (v := x6 + (-1 : Int32)) (lv' := [(6, .int (x6 + (-1 : Int32))), (3, .long y5), (0, .ref (o 80)), (1, .int x1), (2, .int x2), (5, .int x5)]) hx hb dC_Lex_readDigits_89 hl (k := 5) rfl rfl (by decide) rfl (fun ls hl => ?_)
          refine lv_goto (pc := 92) (tgt := 20) hx hb dC_Lex_readDigits_92 (by decide) ?_
          exact hrec20 _ _ _ _ _ _ _ _ _ _ _ _ _ _ hM (by omega) (by omega) _ _ _ hW _ (lv_sub hl [2, 3, 4, 1, 5, 0] rfl)
def C_Lex_readDigits (N : Nat) (x1 : Int32) (x2 : Int32) (sL : CS) (sX : CS) (sY : CS) (sN : CS) (sT : CS) : Option ((Int32 × (CS × CS)) × (Nat × Nat)) :=
  bnd (cF sL 0 x2) (fun sL1 => C_Lex_readDigits_20 N  N x1 x2 (0 : Int64) (sX.1 0) (sX.1 0) sL1 sX sY sN sT)
set_option maxHeartbeats 4000000 in
set_option maxRecDepth 100000 in
theorem bC_Lex_readDigits_0 (N : Nat)  {r : Int32} {u : CS × CS} {DC DS : Nat} (C : CxC R_Lex p s m args meth c cC_Lex_readDigits 7 (some .boolean) D dA z A) (x1 : Int32) (x2 : Int32) (sL : CS) (sX : CS) (sY : CS) (sN : CS) (sT : CS) (dc ds kc ks : Nat) (hM : C_Lex_readDigits N  x1 x2 sL sX sY sN sT = some ((r, u), (dc, ds))) (hdc : kc + dc ≤ DC) (hds : ks + ds ≤ DS) (b : Nat → Nat) (H : Heap) (locs : List Loc) (hW : WdC D A s (w_Lex dA o b sL sX sY sN sT) H locs) (ls : Array Slot) (hl : lv_has ls 7 [(0, .ref (o 80)), (1, .int x1), (2, .int x2)]) : W p l e (rmC 3 126 DC DS) s m args below meth c H locs kc ks (MQ below (QC D A (fun Ws' ov => ∃ b' : Nat → Nat, Ws' = (w_Lex dA o b' u.1 sX sY sN u.2) ∧ ov = (some (.int r)))) args s DC DS A) (F0 m 0 ls []) := by
  have hx := C.1.1
  have hb := C.1.2.1
  have hown := C.1.2.2.2.2.1
  have hT := C.1.2.2.2.2.2.1
  unfold C_Lex_readDigits at hM
  refine lv_lconst (pc := 0) (v := 0) hx hb dC_Lex_readDigits_0 (by decide) ?_
  refine lv_lstore_n (pc := 1) (lv' := [(3, .long (0 : Int64)), (0, .ref (o 80)), (1, .int x1), (2, .int x2)]) hx hb dC_Lex_readDigits_1 rfl hl (by decide) rfl (fun ls hl => ?_)
  refine lv_aload_n (pc := 2) hx hb dC_Lex_readDigits_2 rfl (lv_at hl 1 rfl) ?_
  refine lv_iload_n (pc := 3) hx hb dC_Lex_readDigits_3 rfl (lv_at hl 3 rfl) ?_
  refine x_putC (pc := 4) (ty := .int) (Ws' := (w_Lex dA o b (cF sL 0 x2) sX sY sN sT)) C hW 0 rfl (ci := 6) rfl i_Lex tok_Lex n_Lex 4 (by decide) qc_442 rfl rfl (by decide +kernel) rfl rfl (Nat.le_of_ble_eq_true rfl) rfl dC_Lex_readDigits_4 (fun H locs hW => ?_)
  obtain ⟨sL1, esL1, hM⟩ := bnd_some hM
  rw [← esL1] at hW
  refine lv_aload_n (pc := 7) hx hb dC_Lex_readDigits_7 rfl (lv_at hl 1 rfl) ?_
  refine x_getC (pc := 8) C hW 0 rfl (ci := 6) rfl i_Lex 0 (by decide) qc_438 rfl rfl dC_Lex_readDigits_8 ?_
  refine x_getC (pc := 11) C hW 1 rfl (ci := 1) rfl i_Row 0 (by decide) qc_55 rfl rfl dC_Lex_readDigits_11 ?_
  refine lv_istore (pc := 14) (lv' := [(5, .int (sX.1 0)), (3, .long (0 : Int64)), (0, .ref (o 80)), (1, .int x1), (2, .int x2)]) hx hb dC_Lex_readDigits_14 hl (by decide) rfl (fun ls hl => ?_)
  refine lv_iload (pc := 16) hx hb dC_Lex_readDigits_16 (lv_at hl 0 rfl) ?_
  refine lv_istore (pc := 18) (lv' := [(6, .int (sX.1 0)), (5, .int (sX.1 0)), (3, .long (0 : Int64)), (0, .ref (o 80)), (1, .int x1), (2, .int x2)]) hx hb dC_Lex_readDigits_18 hl (by decide) rfl (fun ls hl => ?_)
  exact bC_Lex_readDigits_20 N  C  N _ _ _ _ _ _ _ _ _ _ _ _ _ _ hM (by omega) (by omega) _ _ _ hW _ (lv_sub hl [3, 4, 5, 2, 1, 0] rfl)
theorem kC_Lex_readDigits (l : Launch) (D : va_G) (dA : Nat → ClassId) (z : Nat → Nat) (o b : Nat → Nat) (N : Nat) (x1 : Int32) (x2 : Int32) (sL : CS) (sX : CS) (sY : CS) (sN : CS) (sT : CS) {r : Int32} {u : CS × CS} {dc ds : Nat} (hM : C_Lex_readDigits N x1 x2 sL sX sY sN sT = some ((r, u), (dc, ds))) : KC l D dA z yC_Lex_readDigits cC_Lex_readDigits 7 (some .boolean) 3 126 dc ds (w_Lex dA o b sL sX sY sN sT) [.ref (o 80), .int x1, .int x2] (fun Ws' ov => ∃ b' : Nat → Nat, Ws' = (w_Lex dA o b' u.1 sX sY sN u.2) ∧ ov = (some (.int r))) := x_enterC (by decide +kernel) (Nat.le_of_ble_eq_true rfl) (fun p e s m args below meth c A C _ hW ls hl => bC_Lex_readDigits_0 N C x1 x2 sL sX sY sN sT dc ds 0 0 hM (by omega) (by omega) b s.heap [] hW ls hl)
def C_Lex_readNumber_114 (N : Nat) (x1 : Int32) (sL : CS) (sX : CS) (sY : CS) (sN : CS) (sT : CS) : Option ((Int32 × (CS × CS)) × (Nat × Nat)) :=
  ct (C_Lex_readNear  x1 sL sX sY sN sT) (fun r1 u2 => gd (isB r1) (some ((r1, (u2.1, u2.2)), (0, 0))))
set_option maxHeartbeats 4000000 in
set_option maxRecDepth 100000 in
theorem bC_Lex_readNumber_114 (N : Nat)  {r : Int32} {u : CS × CS} {DC DS : Nat} (C : CxC R_Lex p s m args meth c cC_Lex_readNumber 2 (some .boolean) D dA z A) (x1 : Int32) (sL : CS) (sX : CS) (sY : CS) (sN : CS) (sT : CS) (dc ds kc ks : Nat) (hM : C_Lex_readNumber_114 N  x1 sL sX sY sN sT = some ((r, u), (dc, ds))) (hdc : kc + dc ≤ DC) (hds : ks + ds ≤ DS) (b : Nat → Nat) (H : Heap) (locs : List Loc) (hW : WdC D A s (w_Lex dA o b sL sX sY sN sT) H locs) (ls : Array Slot) (hl : lv_has ls 2 [(0, .ref (o 80)), (1, .int x1)]) : W p l e (rmC 4 152 DC DS) s m args below meth c H locs kc ks (MQ below (QC D A (fun Ws' ov => ∃ b' : Nat → Nat, Ws' = (w_Lex dA o b' u.1 sX sY sN u.2) ∧ ov = (some (.int r)))) args s DC DS A) (F0 m 114 ls []) := by
  have hx := C.1.1
  have hb := C.1.2.1
  have hown := C.1.2.2.2.2.1
  have hT := C.1.2.2.2.2.2.1
  unfold C_Lex_readNumber_114 at hM
  refine lv_aload_n (pc := 114) hx hb dC_Lex_readNumber_114 rfl (lv_at hl 0 rfl) ?_
  refine lv_iload_n (pc := 115) hx hb dC_Lex_readNumber_115 rfl (lv_at hl 1 rfl) ?_
  obtain ⟨r1, u2, da3, ea4, db5, eb6, hr1, hM, hqda3, hpda3⟩ := ct_some hM
  refine x_callC (pc := 116) (n' := 29) C hW (kC_Lex_readNear l D dA z o b  x1 sL sX sY sN sT hr1) [0, 1, 2, 3, 4, 5, 6, 7, 8, 9, 10, 11, 12, 13, 14, 15, 16, 17, 18, 19, 20, 21, 22, 23, 24, 25, 26, 27, 28] rfl (by decide +kernel) rfl (ci := 6) rfl (q0 := 0) rfl gC_Lex_94 ⟨rfl, by decide, by decide, by decide +kernel⟩ ⟨Nat.le_of_ble_eq_true rfl, Nat.le_of_ble_eq_true rfl⟩ ⟨show _ + da3 ≤ DC by omega, show _ + ea4 ≤ DS by omega⟩ (As := [.int x1]) (n := 1) rfl hl.1 rfl (Nat.le_of_ble_eq_true rfl) dC_Lex_readNumber_116 (fun Wc' ov H locs hPo hWn => ?_)
  obtain ⟨b7, rfl, rfl⟩ := hPo
  have hW := hWn (w_Lex dA o (mxs [0, 1, 2, 3] b7 b) u2.1 sX sY sN u2.2) rfl rfl
  generalize mxs [0, 1, 2, 3] b7 b = b at hW
  obtain ⟨hg8, hM⟩ := gd_some hM
  obtain ⟨rfl, rfl, rfl, rfl⟩ := sm_q hM
  exact x_retCz (pc := 119) C rfl (isB_n hg8) hW ⟨_, rfl, rfl⟩ (by omega) (by omega) dC_Lex_readNumber_119
def C_Lex_readNumber_102 (N : Nat) (x1 : Int32) (sL : CS) (sX : CS) (sY : CS) (sN : CS) (sT : CS) : Option ((Int32 × (CS × CS)) × (Nat × Nat)) :=
  (if x1 = (102 : Int32) then C_Lex_readNumber_114 N  x1 sL sX sY sN sT else (if x1 = (98 : Int32) then C_Lex_readNumber_114 N  x1 sL sX sY sN sT else ct (C_Lex_readDigits N (10 : Int32) (sL.1 0) sL sX sY sN sT) (fun r1 u2 => gd (isB r1) (some ((r1, (u2.1, u2.2)), (0, 0))))))
set_option maxHeartbeats 4000000 in
set_option maxRecDepth 100000 in
theorem bC_Lex_readNumber_102 (N : Nat)  {r : Int32} {u : CS × CS} {DC DS : Nat} (C : CxC R_Lex p s m args meth c cC_Lex_readNumber 2 (some .boolean) D dA z A) (x1 : Int32) (sL : CS) (sX : CS) (sY : CS) (sN : CS) (sT : CS) (dc ds kc ks : Nat) (hM : C_Lex_readNumber_102 N  x1 sL sX sY sN sT = some ((r, u), (dc, ds))) (hdc : kc + dc ≤ DC) (hds : ks + ds ≤ DS) (b : Nat → Nat) (H : Heap) (locs : List Loc) (hW : WdC D A s (w_Lex dA o b sL sX sY sN sT) H locs) (ls : Array Slot) (hl : lv_has ls 2 [(0, .ref (o 80)), (1, .int x1)]) : W p l e (rmC 4 152 DC DS) s m args below meth c H locs kc ks (MQ below (QC D A (fun Ws' ov => ∃ b' : Nat → Nat, Ws' = (w_Lex dA o b' u.1 sX sY sN u.2) ∧ ov = (some (.int r)))) args s DC DS A) (F0 m 102 ls []) := by
  have hx := C.1.1
  have hb := C.1.2.1
  have hown := C.1.2.2.2.2.1
  have hT := C.1.2.2.2.2.2.1
  unfold C_Lex_readNumber_102 at hM
  refine lv_iload_n (pc := 102) hx hb dC_Lex_readNumber_102 rfl (lv_at hl 1 rfl) ?_
  refine lv_bipush (pc := 103) (v := 102) hx hb dC_Lex_readNumber_103 (by decide) ?_
  refine lv_icmp_eq (pc := 105) (tgt := 114) hx hb dC_Lex_readNumber_105 (by decide) (fun hc => ?_) (fun hc => ?_)
  · replace hM := it_t hc hM
    exact bC_Lex_readNumber_114 N  C  _ _ _ _ _ _ _ _ _ _ hM (by omega) (by omega) _ _ _ hW _ (lv_sub hl [0, 1] rfl)
  · replace hM := it_f hc hM
    refine lv_iload_n (pc := 108) hx hb dC_Lex_readNumber_108 rfl (lv_at hl 1 rfl) ?_
    refine lv_bipush (pc := 109) (v := 98) hx hb dC_Lex_readNumber_109 (by decide) ?_
    refine lv_icmp_ne (pc := 111) (tgt := 120) hx hb dC_Lex_readNumber_111 (by decide) (fun hc => ?_) (fun hc => ?_)
    · replace hM := it_f hc hM
      refine lv_aload_n (pc := 120) hx hb dC_Lex_readNumber_120 rfl (lv_at hl 0 rfl) ?_
      refine lv_bipush (pc := 121) (v := 10) hx hb dC_Lex_readNumber_121 (by decide) ?_
      refine lv_aload_n (pc := 123) hx hb dC_Lex_readNumber_123 rfl (lv_at hl 0 rfl) ?_
      refine x_getC (pc := 124) C hW 0 rfl (ci := 6) rfl i_Lex 4 (by decide) qc_442 rfl rfl dC_Lex_readNumber_124 ?_
      obtain ⟨r1, u2, da3, ea4, db5, eb6, hr1, hM, hqda3, hpda3⟩ := ct_some hM
      refine x_callC (pc := 127) (n' := 29) C hW (kC_Lex_readDigits l D dA z o b N (10 : Int32) (sL.1 0) sL sX sY sN sT hr1) [0, 1, 2, 3, 4, 5, 6, 7, 8, 9, 10, 11, 12, 13, 14, 15, 16, 17, 18, 19, 20, 21, 22, 23, 24, 25, 26, 27, 28] rfl (by decide +kernel) rfl (ci := 6) rfl (q0 := 0) rfl gC_Lex_90 ⟨rfl, by decide, by decide, by decide +kernel⟩ ⟨Nat.le_of_ble_eq_true rfl, Nat.le_of_ble_eq_true rfl⟩ ⟨show _ + da3 ≤ DC by omega, show _ + ea4 ≤ DS by omega⟩ (As := [.int (10 : Int32), .int (sL.1 0)]) (n := 2) rfl hl.1 rfl (Nat.le_of_ble_eq_true rfl) dC_Lex_readNumber_127 (fun Wc' ov H locs hPo hWn => ?_)
      obtain ⟨b7, rfl, rfl⟩ := hPo
      have hW := hWn (w_Lex dA o (mxs [0, 1, 2, 3] b7 b) u2.1 sX sY sN u2.2) rfl rfl
      generalize mxs [0, 1, 2, 3] b7 b = b at hW
      obtain ⟨hg8, hM⟩ := gd_some hM
      obtain ⟨rfl, rfl, rfl, rfl⟩ := sm_q hM
      exact x_retCz (pc := 130) C rfl (isB_n hg8) hW ⟨_, rfl, rfl⟩ (by omega) (by omega) dC_Lex_readNumber_130
    · replace hM := it_t hc hM
      exact bC_Lex_readNumber_114 N  C  _ _ _ _ _ _ _ _ _ _ hM (by omega) (by omega) _ _ _ hW _ (lv_sub hl [0, 1] rfl)
def C_Lex_readNumber_49 (N : Nat) (x1 : Int32) (sL : CS) (sX : CS) (sY : CS) (sN : CS) (sT : CS) : Option ((Int32 × (CS × CS)) × (Nat × Nat)) :=
  cr (C_Row_get  (sL.1 0) sX) (fun r1 => (if r1 = (48 : Int32) then (if x1 = (98 : Int32) then cr (C_Row_get  ((sL.1 0) + (2 : Int32)) sX) (fun r2 => cr (C_Lex_isOfName  r2) (fun r3 => (if r3 = 0 then C_Lex_readNumber_102 N  x1 sL sX sY sN sT else ct (C_Lex_readDigits N (2 : Int32) ((sL.1 0) + (2 : Int32)) sL sX sY sN sT) (fun r4 u5 => gd (isB r4) (some ((r4, (u5.1, u5.2)), (0, 0))))))) else C_Lex_readNumber_102 N  x1 sL sX sY sN sT) else C_Lex_readNumber_102 N  x1 sL sX sY sN sT))
set_option maxHeartbeats 4000000 in
set_option maxRecDepth 100000 in
theorem bC_Lex_readNumber_49 (N : Nat)  {r : Int32} {u : CS × CS} {DC DS : Nat} (C : CxC R_Lex p s m args meth c cC_Lex_readNumber 2 (some .boolean) D dA z A) (x1 : Int32) (sL : CS) (sX : CS) (sY : CS) (sN : CS) (sT : CS) (dc ds kc ks : Nat) (hM : C_Lex_readNumber_49 N  x1 sL sX sY sN sT = some ((r, u), (dc, ds))) (hdc : kc + dc ≤ DC) (hds : ks + ds ≤ DS) (b : Nat → Nat) (H : Heap) (locs : List Loc) (hW : WdC D A s (w_Lex dA o b sL sX sY sN sT) H locs) (ls : Array Slot) (hl : lv_has ls 2 [(0, .ref (o 80)), (1, .int x1)]) : W p l e (rmC 4 152 DC DS) s m args below meth c H locs kc ks (MQ below (QC D A (fun Ws' ov => ∃ b' : Nat → Nat, Ws' = (w_Lex dA o b' u.1 sX sY sN u.2) ∧ ov = (some (.int r)))) args s DC DS A) (F0 m 49 ls []) := by
  have hx := C.1.1
  have hb := C.1.2.1
  have hown := C.1.2.2.2.2.1
  have hT := C.1.2.2.2.2.2.1
  unfold C_Lex_readNumber_49 at hM
  refine lv_aload_n (pc := 49) hx hb dC_Lex_readNumber_49 rfl (lv_at hl 0 rfl) ?_
  refine x_getC (pc := 50) C hW 0 rfl (ci := 6) rfl i_Lex 0 (by decide) qc_438 rfl rfl dC_Lex_readNumber_50 ?_
  refine lv_aload_n (pc := 53) hx hb dC_Lex_readNumber_53 rfl (lv_at hl 0 rfl) ?_
  refine x_getC (pc := 54) C hW 0 rfl (ci := 6) rfl i_Lex 4 (by decide) qc_442 rfl rfl dC_Lex_readNumber_54 ?_
  obtain ⟨r1, hr1, hM⟩ := cr_some hM
  refine x_callQ (pc := 57) (n' := 29) (ov := some (.int r1)) C hW (kC_Row_get l D dA z (fun _ => o 0) (fun _ => b 0)  (sL.1 0) sX hr1) [1, 2, 0, 3, 4, 5, 6, 7, 8, 9, 10, 11, 12, 13, 14, 15, 16, 17, 18, 19, 20, 21, 22, 23, 24, 25, 26, 27, 28] rfl (by decide +kernel) rfl (ci := 1) rfl (q0 := 1) rfl gC_Lex_52 ⟨rfl, by decide, by decide, by decide +kernel⟩ ⟨Nat.le_of_ble_eq_true rfl, Nat.le_of_ble_eq_true rfl⟩ ⟨show _ ≤ DC by omega, show _ ≤ DS by omega⟩ (As := [.int (sL.1 0)]) (n := 1) rfl hl.1 rfl (Nat.le_of_ble_eq_true rfl) dC_Lex_readNumber_57 ?_
  refine lv_bipush (pc := 60) (v := 48) hx hb dC_Lex_readNumber_60 (by decide) ?_
  refine lv_icmp_ne (pc := 62) (tgt := 102) hx hb dC_Lex_readNumber_62 (by decide) (fun hc => ?_) (fun hc => ?_)
  · replace hM := it_f hc hM
    exact bC_Lex_readNumber_102 N  C  _ _ _ _ _ _ _ _ _ _ hM (by omega) (by omega) _ _ _ hW _ (lv_sub hl [0, 1] rfl)
  · replace hM := it_t hc hM
    refine lv_iload_n (pc := 65) hx hb dC_Lex_readNumber_65 rfl (lv_at hl 1 rfl) ?_
    refine lv_bipush (pc := 66) (v := 98) hx hb dC_Lex_readNumber_66 (by decide) ?_
    refine lv_icmp_ne (pc := 68) (tgt := 102) hx hb dC_Lex_readNumber_68 (by decide) (fun hc => ?_) (fun hc => ?_)
    · replace hM := it_f hc hM
      exact bC_Lex_readNumber_102 N  C  _ _ _ _ _ _ _ _ _ _ hM (by omega) (by omega) _ _ _ hW _ (lv_sub hl [0, 1] rfl)
    · replace hM := it_t hc hM
      refine lv_aload_n (pc := 71) hx hb dC_Lex_readNumber_71 rfl (lv_at hl 0 rfl) ?_
      refine x_getC (pc := 72) C hW 0 rfl (ci := 6) rfl i_Lex 0 (by decide) qc_438 rfl rfl dC_Lex_readNumber_72 ?_
      refine lv_aload_n (pc := 75) hx hb dC_Lex_readNumber_75 rfl (lv_at hl 0 rfl) ?_
      refine x_getC (pc := 76) C hW 0 rfl (ci := 6) rfl i_Lex 4 (by decide) qc_442 rfl rfl dC_Lex_readNumber_76 ?_
      refine lv_iconst (pc := 79) (v := 2) hx hb dC_Lex_readNumber_79 (by decide) ?_
      refine lv_iadd (pc := 80) hx hb dC_Lex_readNumber_80 ?_
      obtain ⟨r2, hr2, hM⟩ := cr_some hM
      refine x_callQ (pc := 81) (n' := 29) (ov := some (.int r2)) C hW (kC_Row_get l D dA z (fun _ => o 0) (fun _ => b 0)  ((sL.1 0) + (2 : Int32)) sX hr2) [1, 2, 0, 3, 4, 5, 6, 7, 8, 9, 10, 11, 12, 13, 14, 15, 16, 17, 18, 19, 20, 21, 22, 23, 24, 25, 26, 27, 28] rfl (by decide +kernel) rfl (ci := 1) rfl (q0 := 1) rfl gC_Lex_52 ⟨rfl, by decide, by decide, by decide +kernel⟩ ⟨Nat.le_of_ble_eq_true rfl, Nat.le_of_ble_eq_true rfl⟩ ⟨show _ ≤ DC by omega, show _ ≤ DS by omega⟩ (As := [.int ((sL.1 0) + (2 : Int32))]) (n := 1) rfl hl.1 rfl (Nat.le_of_ble_eq_true rfl) dC_Lex_readNumber_81 ?_
      obtain ⟨r3, hr3, hM⟩ := cr_some hM
      refine x_callU (pc := 84) (ov := some (.int r3)) C.1 (kC_Lex_isOfName l  r2 hr3) qc_1038 qc_1036 qc_1037 qc_19 ⟨by decide, by decide, by decide +kernel⟩ ⟨rfl, rfl⟩ ⟨Nat.le_of_ble_eq_true rfl, Nat.le_of_ble_eq_true rfl⟩ ⟨show _ ≤ DC by omega, show _ ≤ DS by omega⟩ (As := [.int r2]) (n := 1) rfl hl.1 rfl (Nat.le_of_ble_eq_true rfl) dC_Lex_readNumber_84 ?_
      refine lv_if_eq (pc := 87) (tgt := 102) hx hb dC_Lex_readNumber_87 (by decide) (fun hc => ?_) (fun hc => ?_)
      · replace hM := it_t hc hM
        exact bC_Lex_readNumber_102 N  C  _ _ _ _ _ _ _ _ _ _ hM (by omega) (by omega) _ _ _ hW _ (lv_sub hl [0, 1] rfl)
      · replace hM := it_f hc hM
        refine lv_aload_n (pc := 90) hx hb dC_Lex_readNumber_90 rfl (lv_at hl 0 rfl) ?_
        refine lv_iconst (pc := 91) (v := 2) hx hb dC_Lex_readNumber_91 (by decide) ?_
        refine lv_aload_n (pc := 92) hx hb dC_Lex_readNumber_92 rfl (lv_at hl 0 rfl) ?_
        refine x_getC (pc := 93) C hW 0 rfl (ci := 6) rfl i_Lex 4 (by decide) qc_442 rfl rfl dC_Lex_readNumber_93 ?_
        refine lv_iconst (pc := 96) (v := 2) hx hb dC_Lex_readNumber_96 (by decide) ?_
        refine lv_iadd (pc := 97) hx hb dC_Lex_readNumber_97 ?_
        obtain ⟨r4, u5, da6, ea7, db8, eb9, hr4, hM, hqda6, hpda6⟩ := ct_some hM
        refine x_callC (pc := 98) (n' := 29) C hW (kC_Lex_readDigits l D dA z o b N (2 : Int32) ((sL.1 0) + (2 : Int32)) sL sX sY sN sT hr4) [0, 1, 2, 3, 4, 5, 6, 7, 8, 9, 10, 11, 12, 13, 14, 15, 16, 17, 18, 19, 20, 21, 22, 23, 24, 25, 26, 27, 28] rfl (by decide +kernel) rfl (ci := 6) rfl (q0 := 0) rfl gC_Lex_90 ⟨rfl, by decide, by decide, by decide +kernel⟩ ⟨Nat.le_of_ble_eq_true rfl, Nat.le_of_ble_eq_true rfl⟩ ⟨show _ + da6 ≤ DC by omega, show _ + ea7 ≤ DS by omega⟩ (As := [.int (2 : Int32), .int ((sL.1 0) + (2 : Int32))]) (n := 2) rfl hl.1 rfl (Nat.le_of_ble_eq_true rfl) dC_Lex_readNumber_98 (fun Wc' ov H locs hPo hWn => ?_)
        obtain ⟨b10, rfl, rfl⟩ := hPo
        have hW := hWn (w_Lex dA o (mxs [0, 1, 2, 3] b10 b) u5.1 sX sY sN u5.2) rfl rfl
        generalize mxs [0, 1, 2, 3] b10 b = b at hW
        obtain ⟨hg11, hM⟩ := gd_some hM
        obtain ⟨rfl, rfl, rfl, rfl⟩ := sm_q hM
        exact x_retCz (pc := 101) C rfl (isB_n hg11) hW ⟨_, rfl, rfl⟩ (by omega) (by omega) dC_Lex_readNumber_101
def C_Lex_readNumber (N : Nat)  (sL : CS) (sX : CS) (sY : CS) (sN : CS) (sT : CS) : Option ((Int32 × (CS × CS)) × (Nat × Nat)) :=
  cr (C_Row_get  ((sL.1 0) + (1 : Int32)) sX) (fun r1 => cr (C_Row_get  (sL.1 0) sX) (fun r2 => (if r2 = (48 : Int32) then (if r1 = (120 : Int32) then ct (C_Lex_readDigits N (16 : Int32) ((sL.1 0) + (2 : Int32)) sL sX sY sN sT) (fun r3 u4 => gd (isB r3) (some ((r3, (u4.1, u4.2)), (0, 0)))) else C_Lex_readNumber_49 N  r1 sL sX sY sN sT) else C_Lex_readNumber_49 N  r1 sL sX sY sN sT)))
set_option maxHeartbeats 4000000 in
set_option maxRecDepth 100000 in
theorem bC_Lex_readNumber_0 (N : Nat)  {r : Int32} {u : CS × CS} {DC DS : Nat} (C : CxC R_Lex p s m args meth c cC_Lex_readNumber 2 (some .boolean) D dA z A)  (sL : CS) (sX : CS) (sY : CS) (sN : CS) (sT : CS) (dc ds kc ks : Nat) (hM : C_Lex_readNumber N   sL sX sY sN sT = some ((r, u), (dc, ds))) (hdc : kc + dc ≤ DC) (hds : ks + ds ≤ DS) (b : Nat → Nat) (H : Heap) (locs : List Loc) (hW : WdC D A s (w_Lex dA o b sL sX sY sN sT) H locs) (ls : Array Slot) (hl : lv_has ls 2 [(0, .ref (o 80))]) : W p l e (rmC 4 152 DC DS) s m args below meth c H locs kc ks (MQ below (QC D A (fun Ws' ov => ∃ b' : Nat → Nat, Ws' = (w_Lex dA o b' u.1 sX sY sN u.2) ∧ ov = (some (.int r)))) args s DC DS A) (F0 m 0 ls []) := by
  have hx := C.1.1
  have hb := C.1.2.1
  have hown := C.1.2.2.2.2.1
  have hT := C.1.2.2.2.2.2.1
  unfold C_Lex_readNumber at hM
  refine lv_aload_n (pc := 0) hx hb dC_Lex_readNumber_0 rfl (lv_at hl 0 rfl) ?_
  refine x_getC (pc := 1) C hW 0 rfl (ci := 6) rfl i_Lex 0 (by decide) qc_438 rfl rfl dC_Lex_readNumber_1 ?_
  refine lv_aload_n (pc := 4) hx hb dC_Lex_readNumber_4 rfl (lv_at hl 0 rfl) ?_
  refine x_getC (pc := 5) C hW 0 rfl (ci := 6) rfl i_Lex 4 (by decide) qc_442 rfl rfl dC_Lex_readNumber_5 ?_
  refine lv_iconst (pc := 8) (v := 1) hx hb dC_Lex_readNumber_8 (by decide) ?_
  refine lv_iadd (pc := 9) hx hb dC_Lex_readNumber_9 ?_
  obtain ⟨r1, hr1, hM⟩ := cr_some hM
  refine x_callQ (pc := 10) (n' := 29) (ov := some (.int r1)) C hW (kC_Row_get l D dA z (fun _ => o 0) (fun _ => b 0)  ((sL.1 0) + (1 : Int32)) sX hr1) [1, 2, 0, 3, 4, 5, 6, 7, 8, 9, 10, 11, 12, 13, 14, 15, 16, 17, 18, 19, 20, 21, 22, 23, 24, 25, 26, 27, 28] rfl (by decide +kernel) rfl (ci := 1) rfl (q0 := 1) rfl gC_Lex_52 ⟨rfl, by decide, by decide, by decide +kernel⟩ ⟨Nat.le_of_ble_eq_true rfl, Nat.le_of_ble_eq_true rfl⟩ ⟨show _ ≤ DC by omega, show _ ≤ DS by omega⟩ (As := [.int ((sL.1 0) + (1 : Int32))]) (n := 1) rfl hl.1 rfl (Nat.le_of_ble_eq_true rfl) dC_Lex_readNumber_10 ?_
  refine lv_istore_n (pc := 13) (lv' := [(1, .int r1), (0, .ref (o 80))]) hx hb dC_Lex_readNumber_13 rfl hl (by decide) rfl (fun ls hl => ?_)
  refine lv_aload_n (pc := 14) hx hb dC_Lex_readNumber_14 rfl (lv_at hl 1 rfl) ?_
  refine x_getC (pc := 15) C hW 0 rfl (ci := 6) rfl i_Lex 0 (by decide) qc_438 rfl rfl dC_Lex_readNumber_15 ?_
  refine lv_aload_n (pc := 18) hx hb dC_Lex_readNumber_18 rfl (lv_at hl 1 rfl) ?_
  refine x_getC (pc := 19) C hW 0 rfl (ci := 6) rfl i_Lex 4 (by decide) qc_442 rfl rfl dC_Lex_readNumber_19 ?_
  obtain ⟨r2, hr2, hM⟩ := cr_some hM
  refine x_callQ (pc := 22) (n' := 29) (ov := some (.int r2)) C hW (kC_Row_get l D dA z (fun _ => o 0) (fun _ => b 0)  (sL.1 0) sX hr2) [1, 2, 0, 3, 4, 5, 6, 7, 8, 9, 10, 11, 12, 13, 14, 15, 16, 17, 18, 19, 20, 21, 22, 23, 24, 25, 26, 27, 28] rfl (by decide +kernel) rfl (ci := 1) rfl (q0 := 1) rfl gC_Lex_52 ⟨rfl, by decide, by decide, by decide +kernel⟩ ⟨Nat.le_of_ble_eq_true rfl, Nat.le_of_ble_eq_true rfl⟩ ⟨show _ ≤ DC by omega, show _ ≤ DS by omega⟩ (As := [.int (sL.1 0)]) (n := 1) rfl hl.1 rfl (Nat.le_of_ble_eq_true rfl) dC_Lex_readNumber_22 ?_
  refine lv_bipush (pc := 25) (v := 48) hx hb dC_Lex_readNumber_25 (by decide) ?_
  refine lv_icmp_ne (pc := 27) (tgt := 49) hx hb dC_Lex_readNumber_27 (by decide) (fun hc => ?_) (fun hc => ?_)
  · replace hM := it_f hc hM
    exact bC_Lex_readNumber_49 N  C  _ _ _ _ _ _ _ _ _ _ hM (by omega) (by omega) _ _ _ hW _ (lv_sub hl [1, 0] rfl)
  · replace hM := it_t hc hM
    refine lv_iload_n (pc := 30) hx hb dC_Lex_readNumber_30 rfl (lv_at hl 0 rfl) ?_
    refine lv_bipush (pc := 31) (v := 120) hx hb dC_Lex_readNumber_31 (by decide) ?_
    refine lv_icmp_ne (pc := 33) (tgt := 49) hx hb dC_Lex_readNumber_33 (by decide) (fun hc => ?_) (fun hc => ?_)
    · replace hM := it_f hc hM
      exact bC_Lex_readNumber_49 N  C  _ _ _ _ _ _ _ _ _ _ hM (by omega) (by omega) _ _ _ hW _ (lv_sub hl [1, 0] rfl)
    · replace hM := it_t hc hM
      refine lv_aload_n (pc := 36) hx hb dC_Lex_readNumber_36 rfl (lv_at hl 1 rfl) ?_
      refine lv_bipush (pc := 37) (v := 16) hx hb dC_Lex_readNumber_37 (by decide) ?_
      refine lv_aload_n (pc := 39) hx hb dC_Lex_readNumber_39 rfl (lv_at hl 1 rfl) ?_
      refine x_getC (pc := 40) C hW 0 rfl (ci := 6) rfl i_Lex 4 (by decide) qc_442 rfl rfl dC_Lex_readNumber_40 ?_
      refine lv_iconst (pc := 43) (v := 2) hx hb dC_Lex_readNumber_43 (by decide) ?_
      refine lv_iadd (pc := 44) hx hb dC_Lex_readNumber_44 ?_
      obtain ⟨r3, u4, da5, ea6, db7, eb8, hr3, hM, hqda5, hpda5⟩ := ct_some hM
      refine x_callC (pc := 45) (n' := 29) C hW (kC_Lex_readDigits l D dA z o b N (16 : Int32) ((sL.1 0) + (2 : Int32)) sL sX sY sN sT hr3) [0, 1, 2, 3, 4, 5, 6, 7, 8, 9, 10, 11, 12, 13, 14, 15, 16, 17, 18, 19, 20, 21, 22, 23, 24, 25, 26, 27, 28] rfl (by decide +kernel) rfl (ci := 6) rfl (q0 := 0) rfl gC_Lex_90 ⟨rfl, by decide, by decide, by decide +kernel⟩ ⟨Nat.le_of_ble_eq_true rfl, Nat.le_of_ble_eq_true rfl⟩ ⟨show _ + da5 ≤ DC by omega, show _ + ea6 ≤ DS by omega⟩ (As := [.int (16 : Int32), .int ((sL.1 0) + (2 : Int32))]) (n := 2) rfl hl.1 rfl (Nat.le_of_ble_eq_true rfl) dC_Lex_readNumber_45 (fun Wc' ov H locs hPo hWn => ?_)
      obtain ⟨b9, rfl, rfl⟩ := hPo
      have hW := hWn (w_Lex dA o (mxs [0, 1, 2, 3] b9 b) u4.1 sX sY sN u4.2) rfl rfl
      generalize mxs [0, 1, 2, 3] b9 b = b at hW
      obtain ⟨hg10, hM⟩ := gd_some hM
      obtain ⟨rfl, rfl, rfl, rfl⟩ := sm_q hM
      exact x_retCz (pc := 48) C rfl (isB_n hg10) hW ⟨_, rfl, rfl⟩ (by omega) (by omega) dC_Lex_readNumber_48
theorem kC_Lex_readNumber (l : Launch) (D : va_G) (dA : Nat → ClassId) (z : Nat → Nat) (o b : Nat → Nat) (N : Nat)  (sL : CS) (sX : CS) (sY : CS) (sN : CS) (sT : CS) {r : Int32} {u : CS × CS} {dc ds : Nat} (hM : C_Lex_readNumber N  sL sX sY sN sT = some ((r, u), (dc, ds))) : KC l D dA z yC_Lex_readNumber cC_Lex_readNumber 2 (some .boolean) 4 152 dc ds (w_Lex dA o b sL sX sY sN sT) [.ref (o 80)] (fun Ws' ov => ∃ b' : Nat → Nat, Ws' = (w_Lex dA o b' u.1 sX sY sN u.2) ∧ ov = (some (.int r))) := x_enterC (by decide +kernel) (Nat.le_of_ble_eq_true rfl) (fun p e s m args below meth c A C _ hW ls hl => bC_Lex_readNumber_0 N C  sL sX sY sN sT dc ds 0 0 hM (by omega) (by omega) b s.heap [] hW ls hl)
def C_Lex_readQuoted_56  (sL : CS) (sX : CS) (sY : CS) (sN : CS) (sT : CS) : Option ((Int32 × (CS × CS)) × (Nat × Nat)) :=
  some (((0 : Int32), (sL, sT)), (0, 0))
set_option maxHeartbeats 4000000 in
set_option maxRecDepth 100000 in
theorem bC_Lex_readQuoted_56  {r : Int32} {u : CS × CS} {DC DS : Nat} (C : CxC R_Lex p s m args meth c cC_Lex_readQuoted 2 (some .boolean) D dA z A)  (sL : CS) (sX : CS) (sY : CS) (sN : CS) (sT : CS) (dc ds kc ks : Nat) (hM : C_Lex_readQuoted_56   sL sX sY sN sT = some ((r, u), (dc, ds))) (hdc : kc + dc ≤ DC) (hds : ks + ds ≤ DS) (b : Nat → Nat) (H : Heap) (locs : List Loc) (hW : WdC D A s (w_Lex dA o b sL sX sY sN sT) H locs) (ls : Array Slot) (hl : lv_has ls 2 []) : W p l e (rmC 3 126 DC DS) s m args below meth c H locs kc ks (MQ below (QC D A (fun Ws' ov => ∃ b' : Nat → Nat, Ws' = (w_Lex dA o b' u.1 sX sY sN u.2) ∧ ov = (some (.int r)))) args s DC DS A) (F0 m 56 ls []) := by
  have hx := C.1.1
  have hb := C.1.2.1
  have hown := C.1.2.2.2.2.1
  have hT := C.1.2.2.2.2.2.1
  unfold C_Lex_readQuoted_56 at hM
  refine lv_iconst (pc := 56) (v := 0) hx hb dC_Lex_readQuoted_56 (by decide) ?_
  obtain ⟨rfl, rfl, rfl, rfl⟩ := sm_q hM
  exact x_retCz (pc := 57) C rfl rfl hW ⟨_, rfl, rfl⟩ (by omega) (by omega) dC_Lex_readQuoted_57
def C_Lex_readQuoted  (sL : CS) (sX : CS) (sY : CS) (sN : CS) (sT : CS) : Option ((Int32 × (CS × CS)) × (Nat × Nat)) :=
  bnd (cF sL 0 ((sL.1 0) + (1 : Int32))) (fun sL1 => cl (C_Lex_readCharacter  (39 : Int32) sL1 sX sY sN sT) (fun r2 u3 => (if r2 < 0 then C_Lex_readQuoted_56  u3 sX sY sN sT else cr (C_Row_get  (u3.1 0) sX) (fun r4 => (if r4 = (39 : Int32) then cr (C_Row_get  ((u3.1 0) + (1 : Int32)) sX) (fun r5 => cr (C_Lex_isOfName  r5) (fun r6 => (if r6 = 0 then bnd (cF u3 0 ((u3.1 0) + (1 : Int32))) (fun sL7 => ct (C_Tok_add  (3 : Int32) r2 (0 : Int32) sT) (fun r8 u9 => some (((1 : Int32), (sL7, u9)), (0, 0)))) else C_Lex_readQuoted_56  u3 sX sY sN sT))) else C_Lex_readQuoted_56  u3 sX sY sN sT)))))
set_option maxHeartbeats 4000000 in
set_option maxRecDepth 100000 in
theorem bC_Lex_readQuoted_0  {r : Int32} {u : CS × CS} {DC DS : Nat} (C : CxC R_Lex p s m args meth c cC_Lex_readQuoted 2 (some .boolean) D dA z A)  (sL : CS) (sX : CS) (sY : CS) (sN : CS) (sT : CS) (dc ds kc ks : Nat) (hM : C_Lex_readQuoted   sL sX sY sN sT = some ((r, u), (dc, ds))) (hdc : kc + dc ≤ DC) (hds : ks + ds ≤ DS) (b : Nat → Nat) (H : Heap) (locs : List Loc) (hW : WdC D A s (w_Lex dA o b sL sX sY sN sT) H locs) (ls : Array Slot) (hl : lv_has ls 2 [(0, .ref (o 80))]) : W p l e (rmC 3 126 DC DS) s m args below meth c H locs kc ks (MQ below (QC D A (fun Ws' ov => ∃ b' : Nat → Nat, Ws' = (w_Lex dA o b' u.1 sX sY sN u.2) ∧ ov = (some (.int r)))) args s DC DS A) (F0 m 0 ls []) := by
  have hx := C.1.1
  have hb := C.1.2.1
  have hown := C.1.2.2.2.2.1
  have hT := C.1.2.2.2.2.2.1
  unfold C_Lex_readQuoted at hM
  refine lv_aload_n (pc := 0) hx hb dC_Lex_readQuoted_0 rfl (lv_at hl 0 rfl) ?_
  refine lv_dup (pc := 1) hx hb dC_Lex_readQuoted_1 rfl ?_
  refine x_getC (pc := 2) C hW 0 rfl (ci := 6) rfl i_Lex 4 (by decide) qc_442 rfl rfl dC_Lex_readQuoted_2 ?_
  refine lv_iconst (pc := 5) (v := 1) hx hb dC_Lex_readQuoted_5 (by decide) ?_
  refine lv_iadd (pc := 6) hx hb dC_Lex_readQuoted_6 ?_
  refine x_putC (pc := 7) (ty := .int) (Ws' := (w_Lex dA o b (cF sL 0 ((sL.1 0) + (1 : Int32))) sX sY sN sT)) C hW 0 rfl (ci := 6) rfl i_Lex tok_Lex n_Lex 4 (by decide) qc_442 rfl rfl (by decide +kernel) rfl rfl (Nat.le_of_ble_eq_true rfl) rfl dC_Lex_readQuoted_7 (fun H locs hW => ?_)
  obtain ⟨sL1, esL1, hM⟩ := bnd_some hM
  rw [← esL1] at hW
  refine lv_aload_n (pc := 10) hx hb dC_Lex_readQuoted_10 rfl (lv_at hl 0 rfl) ?_
  refine lv_bipush (pc := 11) (v := 39) hx hb dC_Lex_readQuoted_11 (by decide) ?_
  obtain ⟨r2, u3, hr2, hM⟩ := cl_some hM
  refine x_callC (pc := 13) (n' := 29) C hW (kC_Lex_readCharacter l D dA z o b  (39 : Int32) sL1 sX sY sN sT hr2) [0, 1, 2, 3, 4, 5, 6, 7, 8, 9, 10, 11, 12, 13, 14, 15, 16, 17, 18, 19, 20, 21, 22, 23, 24, 25, 26, 27, 28] rfl (by decide +kernel) rfl (ci := 6) rfl (q0 := 0) rfl gC_Lex_108 ⟨rfl, by decide, by decide, by decide +kernel⟩ ⟨Nat.le_of_ble_eq_true rfl, Nat.le_of_ble_eq_true rfl⟩ ⟨show _ + 0 ≤ DC by omega, show _ + 0 ≤ DS by omega⟩ (As := [.int (39 : Int32)]) (n := 1) rfl hl.1 rfl (Nat.le_of_ble_eq_true rfl) dC_Lex_readQuoted_13 (fun Wc' ov H locs hPo hWn => ?_)
  obtain ⟨rfl, rfl⟩ := hPo
  have hW := hWn (w_Lex dA o b u3 sX sY sN sT) rfl rfl
  refine lv_istore_n (pc := 16) (lv' := [(1, .int r2), (0, .ref (o 80))]) hx hb dC_Lex_readQuoted_16 rfl hl (by decide) rfl (fun ls hl => ?_)
  refine lv_iload_n (pc := 17) hx hb dC_Lex_readQuoted_17 rfl (lv_at hl 0 rfl) ?_
  refine lv_if_lt (pc := 18) (tgt := 56) hx hb dC_Lex_readQuoted_18 (by decide) (fun hc => ?_) (fun hc => ?_)
  · replace hM := it_t hc hM
    exact bC_Lex_readQuoted_56  C  _ _ _ _ _ _ _ _ _ hM (by omega) (by omega) _ _ _ hW _ (lv_sub hl [] rfl)
  · replace hM := it_f hc hM
    refine lv_aload_n (pc := 21) hx hb dC_Lex_readQuoted_21 rfl (lv_at hl 1 rfl) ?_
    refine x_getC (pc := 22) C hW 0 rfl (ci := 6) rfl i_Lex 0 (by decide) qc_438 rfl rfl dC_Lex_readQuoted_22 ?_
    refine lv_aload_n (pc := 25) hx hb dC_Lex_readQuoted_25 rfl (lv_at hl 1 rfl) ?_
    refine x_getC (pc := 26) C hW 0 rfl (ci := 6) rfl i_Lex 4 (by decide) qc_442 rfl rfl dC_Lex_readQuoted_26 ?_
    obtain ⟨r4, hr4, hM⟩ := cr_some hM
    refine x_callQ (pc := 29) (n' := 29) (ov := some (.int r4)) C hW (kC_Row_get l D dA z (fun _ => o 0) (fun _ => b 0)  (u3.1 0) sX hr4) [1, 2, 0, 3, 4, 5, 6, 7, 8, 9, 10, 11, 12, 13, 14, 15, 16, 17, 18, 19, 20, 21, 22, 23, 24, 25, 26, 27, 28] rfl (by decide +kernel) rfl (ci := 1) rfl (q0 := 1) rfl gC_Lex_52 ⟨rfl, by decide, by decide, by decide +kernel⟩ ⟨Nat.le_of_ble_eq_true rfl, Nat.le_of_ble_eq_true rfl⟩ ⟨show _ ≤ DC by omega, show _ ≤ DS by omega⟩ (As := [.int (u3.1 0)]) (n := 1) rfl hl.1 rfl (Nat.le_of_ble_eq_true rfl) dC_Lex_readQuoted_29 ?_
    refine lv_bipush (pc := 32) (v := 39) hx hb dC_Lex_readQuoted_32 (by decide) ?_
    refine lv_icmp_ne (pc := 34) (tgt := 56) hx hb dC_Lex_readQuoted_34 (by decide) (fun hc => ?_) (fun hc => ?_)
    · replace hM := it_f hc hM
      exact bC_Lex_readQuoted_56  C  _ _ _ _ _ _ _ _ _ hM (by omega) (by omega) _ _ _ hW _ (lv_sub hl [] rfl)
    · replace hM := it_t hc hM
      refine lv_aload_n (pc := 37) hx hb dC_Lex_readQuoted_37 rfl (lv_at hl 1 rfl) ?_
      refine x_getC (pc := 38) C hW 0 rfl (ci := 6) rfl i_Lex 0 (by decide) qc_438 rfl rfl dC_Lex_readQuoted_38 ?_
      refine lv_aload_n (pc := 41) hx hb dC_Lex_readQuoted_41 rfl (lv_at hl 1 rfl) ?_
      refine x_getC (pc := 42) C hW 0 rfl (ci := 6) rfl i_Lex 4 (by decide) qc_442 rfl rfl dC_Lex_readQuoted_42 ?_
      refine lv_iconst (pc := 45) (v := 1) hx hb dC_Lex_readQuoted_45 (by decide) ?_
      refine lv_iadd (pc := 46) hx hb dC_Lex_readQuoted_46 ?_
      obtain ⟨r5, hr5, hM⟩ := cr_some hM
      refine x_callQ (pc := 47) (n' := 29) (ov := some (.int r5)) C hW (kC_Row_get l D dA z (fun _ => o 0) (fun _ => b 0)  ((u3.1 0) + (1 : Int32)) sX hr5) [1, 2, 0, 3, 4, 5, 6, 7, 8, 9, 10, 11, 12, 13, 14, 15, 16, 17, 18, 19, 20, 21, 22, 23, 24, 25, 26, 27, 28] rfl (by decide +kernel) rfl (ci := 1) rfl (q0 := 1) rfl gC_Lex_52 ⟨rfl, by decide, by decide, by decide +kernel⟩ ⟨Nat.le_of_ble_eq_true rfl, Nat.le_of_ble_eq_true rfl⟩ ⟨show _ ≤ DC by omega, show _ ≤ DS by omega⟩ (As := [.int ((u3.1 0) + (1 : Int32))]) (n := 1) rfl hl.1 rfl (Nat.le_of_ble_eq_true rfl) dC_Lex_readQuoted_47 ?_
      obtain ⟨r6, hr6, hM⟩ := cr_some hM
      refine x_callU (pc := 50) (ov := some (.int r6)) C.1 (kC_Lex_isOfName l  r5 hr6) qc_1038 qc_1036 qc_1037 qc_19 ⟨by decide, by decide, by decide +kernel⟩ ⟨rfl, rfl⟩ ⟨Nat.le_of_ble_eq_true rfl, Nat.le_of_ble_eq_true rfl⟩ ⟨show _ ≤ DC by omega, show _ ≤ DS by omega⟩ (As := [.int r5]) (n := 1) rfl hl.1 rfl (Nat.le_of_ble_eq_true rfl) dC_Lex_readQuoted_50 ?_
      refine lv_if_eq (pc := 53) (tgt := 58) hx hb dC_Lex_readQuoted_53 (by decide) (fun hc => ?_) (fun hc => ?_)
      · replace hM := it_t hc hM
        refine lv_aload_n (pc := 58) hx hb dC_Lex_readQuoted_58 rfl (lv_at hl 1 rfl) ?_
        refine lv_dup (pc := 59) hx hb dC_Lex_readQuoted_59 rfl ?_
        refine x_getC (pc := 60) C hW 0 rfl (ci := 6) rfl i_Lex 4 (by decide) qc_442 rfl rfl dC_Lex_readQuoted_60 ?_
        refine lv_iconst (pc := 63) (v := 1) hx hb dC_Lex_readQuoted_63 (by decide) ?_
        refine lv_iadd (pc := 64) hx hb dC_Lex_readQuoted_64 ?_
        refine x_putC (pc := 65) (ty := .int) (Ws' := (w_Lex dA o b (cF u3 0 ((u3.1 0) + (1 : Int32))) sX sY sN sT)) C hW 0 rfl (ci := 6) rfl i_Lex tok_Lex n_Lex 4 (by decide) qc_442 rfl rfl (by decide +kernel) rfl rfl (Nat.le_of_ble_eq_true rfl) rfl dC_Lex_readQuoted_65 (fun H locs hW => ?_)
        obtain ⟨sL7, esL7, hM⟩ := bnd_some hM
        rw [← esL7] at hW
        refine lv_aload_n (pc := 68) hx hb dC_Lex_readQuoted_68 rfl (lv_at hl 1 rfl) ?_
        refine x_getC (pc := 69) C hW 0 rfl (ci := 6) rfl i_Lex 2 (by decide) qc_440 rfl rfl dC_Lex_readQuoted_69 ?_
        refine lv_iconst (pc := 72) (v := 3) hx hb dC_Lex_readQuoted_72 (by decide) ?_
        refine lv_iload_n (pc := 73) hx hb dC_Lex_readQuoted_73 rfl (lv_at hl 0 rfl) ?_
        refine lv_iconst (pc := 74) (v := 0) hx hb dC_Lex_readQuoted_74 (by decide) ?_
        obtain ⟨r8, u9, da10, ea11, db12, eb13, hr8, hM, hqda10, hpda10⟩ := ct_some hM
        refine x_callC (pc := 75) (n' := 29) C hW (kC_Tok_add l D dA z o b  (3 : Int32) r2 (0 : Int32) sT hr8) [25, 26, 27, 28, 0, 1, 2, 3, 4, 5, 6, 7, 8, 9, 10, 11, 12, 13, 14, 15, 16, 17, 18, 19, 20, 21, 22, 23, 24] rfl (by decide +kernel) rfl (ci := 3) rfl (q0 := 25) rfl gC_Lex_48 ⟨rfl, by decide, by decide, by decide +kernel⟩ ⟨Nat.le_of_ble_eq_true rfl, Nat.le_of_ble_eq_true rfl⟩ ⟨show _ + da10 ≤ DC by omega, show _ + ea11 ≤ DS by omega⟩ (As := [.int (3 : Int32), .int r2, .int (0 : Int32)]) (n := 3) rfl hl.1 rfl (Nat.le_of_ble_eq_true rfl) dC_Lex_readQuoted_75 (fun Wc' ov H locs hPo hWn => ?_)
        obtain ⟨b14, rfl, rfl⟩ := hPo
        have hW := hWn (w_Lex dA o (mxs [2] b14 b) sL7 sX sY sN u9) rfl rfl
        generalize mxs [2] b14 b = b at hW
        refine lv_iconst (pc := 78) (v := 1) hx hb dC_Lex_readQuoted_78 (by decide) ?_
        obtain ⟨rfl, rfl, rfl, rfl⟩ := sm_q hM
        exact x_retCz (pc := 79) C rfl rfl hW ⟨_, rfl, rfl⟩ (by omega) (by omega) dC_Lex_readQuoted_79
      · replace hM := it_f hc hM
        exact bC_Lex_readQuoted_56  C  _ _ _ _ _ _ _ _ _ hM (by omega) (by omega) _ _ _ hW _ (lv_sub hl [] rfl)
theorem kC_Lex_readQuoted (l : Launch) (D : va_G) (dA : Nat → ClassId) (z : Nat → Nat) (o b : Nat → Nat)  (sL : CS) (sX : CS) (sY : CS) (sN : CS) (sT : CS) {r : Int32} {u : CS × CS} {dc ds : Nat} (hM : C_Lex_readQuoted  sL sX sY sN sT = some ((r, u), (dc, ds))) : KC l D dA z yC_Lex_readQuoted cC_Lex_readQuoted 2 (some .boolean) 3 126 dc ds (w_Lex dA o b sL sX sY sN sT) [.ref (o 80)] (fun Ws' ov => ∃ b' : Nat → Nat, Ws' = (w_Lex dA o b' u.1 sX sY sN u.2) ∧ ov = (some (.int r))) := x_enterC (by decide +kernel) (Nat.le_of_ble_eq_true rfl) (fun p e s m args below meth c A C _ hW ls hl => bC_Lex_readQuoted_0 C  sL sX sY sN sT dc ds 0 0 hM (by omega) (by omega) b s.heap [] hW ls hl)
def C_Lex_readString_87 (N : Nat) (x1 : Int32) (sL : CS) (sX : CS) (sY : CS) (sN : CS) (sT : CS) : Option ((Int32 × (CS × CS × CS)) × (Nat × Nat)) :=
  cr (C_Row_get  (sL.1 0) sX) (fun r1 => (if r1 = (34 : Int32) then bnd (cF sL 0 ((sL.1 0) + (1 : Int32))) (fun sL2 => ct (C_Tok_add  (6 : Int32) x1 ((sY.1 0) - x1) sT) (fun r3 u4 => ct (C_Row_add  (0 : Int32) sY) (fun r10 u11 => some (((1 : Int32), (sL2, u11, u4)), (0, 0))))) else some (((0 : Int32), (sL, sY, sT)), (0, 0))))
set_option maxHeartbeats 4000000 in
set_option maxRecDepth 100000 in
theorem bC_Lex_readString_87 (N : Nat)  {r : Int32} {u : CS × CS × CS} {DC DS : Nat} (C : CxC R_Lex p s m args meth c cC_Lex_readString 4 (some .boolean) D dA z A) (x1 : Int32) (sL : CS) (sX : CS) (sY : CS) (sN : CS) (sT : CS) (dc ds kc ks : Nat) (hM : C_Lex_readString_87 N  x1 sL sX sY sN sT = some ((r, u), (dc, ds))) (hdc : kc + dc ≤ DC) (hds : ks + ds ≤ DS) (b : Nat → Nat) (H : Heap) (locs : List Loc) (hW : WdC D A s (w_Lex dA o b sL sX sY sN sT) H locs) (ls : Array Slot) (hl : lv_has ls 4 [(0, .ref (o 80)), (1, .int x1)]) : W p l e (rmC 3 126 DC DS) s m args below meth c H locs kc ks (MQ below (QC D A (fun Ws' ov => ∃ b' : Nat → Nat, Ws' = (w_Lex dA o b' u.1 sX u.2.1 sN u.2.2) ∧ ov = (some (.int r)))) args s DC DS A) (F0 m 87 ls []) := by
  have hx := C.1.1
  have hb := C.1.2.1
  have hown := C.1.2.2.2.2.1
  have hT := C.1.2.2.2.2.2.1
  unfold C_Lex_readString_87 at hM
  refine lv_aload_n (pc := 87) hx hb dC_Lex_readString_87 rfl (lv_at hl 0 rfl) ?_
  refine x_getC (pc := 88) C hW 0 rfl (ci := 6) rfl i_Lex 0 (by decide) qc_438 rfl rfl dC_Lex_readString_88 ?_
  refine lv_aload_n (pc := 91) hx hb dC_Lex_readString_91 rfl (lv_at hl 0 rfl) ?_
  refine x_getC (pc := 92) C hW 0 rfl (ci := 6) rfl i_Lex 4 (by decide) qc_442 rfl rfl dC_Lex_readString_92 ?_
  obtain ⟨r1, hr1, hM⟩ := cr_some hM
  refine x_callQ (pc := 95) (n' := 29) (ov := some (.int r1)) C hW (kC_Row_get l D dA z (fun _ => o 0) (fun _ => b 0)  (sL.1 0) sX hr1) [1, 2, 0, 3, 4, 5, 6, 7, 8, 9, 10, 11, 12, 13, 14, 15, 16, 17, 18, 19, 20, 21, 22, 23, 24, 25, 26, 27, 28] rfl (by decide +kernel) rfl (ci := 1) rfl (q0 := 1) rfl gC_Lex_52 ⟨rfl, by decide, by decide, by decide +kernel⟩ ⟨Nat.le_of_ble_eq_true rfl, Nat.le_of_ble_eq_true rfl⟩ ⟨show _ ≤ DC by omega, show _ ≤ DS by omega⟩ (As := [.int (sL.1 0)]) (n := 1) rfl hl.1 rfl (Nat.le_of_ble_eq_true rfl) dC_Lex_readString_95 ?_
  refine lv_bipush (pc := 98) (v := 34) hx hb dC_Lex_readString_98 (by decide) ?_
  refine lv_icmp_eq (pc := 100) (tgt := 105) hx hb dC_Lex_readString_100 (by decide) (fun hc => ?_) (fun hc => ?_)
  · replace hM := it_t hc hM
    refine lv_aload_n (pc := 105) hx hb dC_Lex_readString_105 rfl (lv_at hl 0 rfl) ?_
    refine lv_dup (pc := 106) hx hb dC_Lex_readString_106 rfl ?_
    refine x_getC (pc := 107) C hW 0 rfl (ci := 6) rfl i_Lex 4 (by decide) qc_442 rfl rfl dC_Lex_readString_107 ?_
    refine lv_iconst (pc := 110) (v := 1) hx hb dC_Lex_readString_110 (by decide) ?_
    refine lv_iadd (pc := 111) hx hb dC_Lex_readString_111 ?_
    refine x_putC (pc := 112) (ty := .int) (Ws' := (w_Lex dA o b (cF sL 0 ((sL.1 0) + (1 : Int32))) sX sY sN sT)) C hW 0 rfl (ci := 6) rfl i_Lex tok_Lex n_Lex 4 (by decide) qc_442 rfl rfl (by decide +kernel) rfl rfl (Nat.le_of_ble_eq_true rfl) rfl dC_Lex_readString_112 (fun H locs hW => ?_)
    obtain ⟨sL2, esL2, hM⟩ := bnd_some hM
    rw [← esL2] at hW
    refine lv_aload_n (pc := 115) hx hb dC_Lex_readString_115 rfl (lv_at hl 0 rfl) ?_
    refine x_getC (pc := 116) C hW 0 rfl (ci := 6) rfl i_Lex 2 (by decide) qc_440 rfl rfl dC_Lex_readString_116 ?_
    refine lv_bipush (pc := 119) (v := 6) hx hb dC_Lex_readString_119 (by decide) ?_
    refine lv_iload_n (pc := 121) hx hb dC_Lex_readString_121 rfl (lv_at hl 1 rfl) ?_
    refine lv_aload_n (pc := 122) hx hb dC_Lex_readString_122 rfl (lv_at hl 0 rfl) ?_
    refine x_getC (pc := 123) C hW 0 rfl (ci := 6) rfl i_Lex 3 (by decide) qc_441 rfl rfl dC_Lex_readString_123 ?_
    refine x_getC (pc := 126) C hW 3 rfl (ci := 1) rfl i_Row 0 (by decide) qc_55 rfl rfl dC_Lex_readString_126 ?_
    refine lv_iload_n (pc := 129) hx hb dC_Lex_readString_129 rfl (lv_at hl 1 rfl) ?_
    refine lv_isub (pc := 130) hx hb dC_Lex_readString_130 ?_
    obtain ⟨r3, u4, da5, ea6, db7, eb8, hr3, hM, hqda5, hpda5⟩ := ct_some hM
    refine x_callC (pc := 131) (n' := 29) C hW (kC_Tok_add l D dA z o b  (6 : Int32) x1 ((sY.1 0) - x1) sT hr3) [25, 26, 27, 28, 0, 1, 2, 3, 4, 5, 6, 7, 8, 9, 10, 11, 12, 13, 14, 15, 16, 17, 18, 19, 20, 21, 22, 23, 24] rfl (by decide +kernel) rfl (ci := 3) rfl (q0 := 25) rfl gC_Lex_48 ⟨rfl, by decide, by decide, by decide +kernel⟩ ⟨Nat.le_of_ble_eq_true rfl, Nat.le_of_ble_eq_true rfl⟩ ⟨show _ + da5 ≤ DC by omega, show _ + ea6 ≤ DS by omega⟩ (As := [.int (6 : Int32), .int x1, .int ((sY.1 0) - x1)]) (n := 3) rfl hl.1 rfl (Nat.le_of_ble_eq_true rfl) dC_Lex_readString_131 (fun Wc' ov H locs hPo hWn => ?_)
    obtain ⟨b9, rfl, rfl⟩ := hPo
    have hW := hWn (w_Lex dA o (mxs [2] b9 b) sL2 sX sY sN u4) rfl rfl
    generalize mxs [2] b9 b = b at hW
    refine lv_aload_n (pc := 134) hx hb dC_Lex_readString_134 rfl (lv_at hl 0 rfl) ?_
    refine x_getC (pc := 135) C hW 0 rfl (ci := 6) rfl i_Lex 3 (by decide) qc_441 rfl rfl dC_Lex_readString_135 ?_
    refine lv_iconst (pc := 138) (v := 0) hx hb dC_Lex_readString_138 (by decide) ?_
    obtain ⟨r10, u11, da12, ea13, db14, eb15, hr10, hM, hqda12, hpda12⟩ := ct_some hM
    refine x_callC (pc := 139) (n' := 29) C hW (kC_Row_add l D dA z (fun _ => o 48) (fun _ => b 48)  (0 : Int32) sY hr10) [3, 4, 0, 1, 2, 5, 6, 7, 8, 9, 10, 11, 12, 13, 14, 15, 16, 17, 18, 19, 20, 21, 22, 23, 24, 25, 26, 27, 28] rfl (by decide +kernel) rfl (ci := 1) rfl (q0 := 3) rfl gC_Lex_111 ⟨rfl, by decide, by decide, by decide +kernel⟩ ⟨Nat.le_of_ble_eq_true rfl, Nat.le_of_ble_eq_true rfl⟩ ⟨show _ + da12 ≤ DC by omega, show _ + ea13 ≤ DS by omega⟩ (As := [.int (0 : Int32)]) (n := 1) rfl hl.1 rfl (Nat.le_of_ble_eq_true rfl) dC_Lex_readString_139 (fun Wc' ov H locs hPo hWn => ?_)
    obtain ⟨b16, rfl, rfl⟩ := hPo
    have hW := hWn (w_Lex dA o (uN b 48 (b16 0)) sL2 sX u11 sN u4) rfl rfl
    generalize uN b 48 (b16 0) = b at hW
    refine lv_iconst (pc := 142) (v := 1) hx hb dC_Lex_readString_142 (by decide) ?_
    obtain ⟨rfl, rfl, rfl, rfl⟩ := sm_q hM
    exact x_retCz (pc := 143) C rfl rfl hW ⟨_, rfl, rfl⟩ (by omega) (by omega) dC_Lex_readString_143
  · replace hM := it_f hc hM
    refine lv_iconst (pc := 103) (v := 0) hx hb dC_Lex_readString_103 (by decide) ?_
    obtain ⟨rfl, rfl, rfl, rfl⟩ := sm_q hM
    exact x_retCz (pc := 104) C rfl rfl hW ⟨_, rfl, rfl⟩ (by omega) (by omega) dC_Lex_readString_104
def C_Lex_readString_26 (N : Nat)  : Nat → Int32 → Int32 → CS → CS → CS → CS → CS → Option ((Int32 × (CS × CS × CS)) × (Nat × Nat))
  | 0 => fun _ _ _ _ _ _ _ => none
  | n + 1 => fun x1 x2 sL sX sY sN sT => (if x2 ≤ 0 then C_Lex_readString_87 N  x1 sL sX sY sN sT else (if (sX.1 0) ≤ (sL.1 0) then C_Lex_readString_87 N  x1 sL sX sY sN sT else cr (C_Row_get  (sL.1 0) sX) (fun r1 => (if r1 = (34 : Int32) then C_Lex_readString_87 N  x1 sL sX sY sN sT else cl (C_Lex_readCharacter  (34 : Int32) sL sX sY sN sT) (fun r2 u3 => (if 0 ≤ r2 then ct (C_Row_add  r2 sY) (fun r4 u5 => (C_Lex_readString_26 N  n) x1 (x2 + (-1 : Int32)) u3 sX u5 sN sT) else some (((0 : Int32), (u3, sY, sT)), (0, 0))))))))
set_option maxHeartbeats 4000000 in
set_option maxRecDepth 100000 in
theorem bC_Lex_readString_26 (N : Nat)  {r : Int32} {u : CS × CS × CS} {DC DS : Nat} (C : CxC R_Lex p s m args meth c cC_Lex_readString 4 (some .boolean) D dA z A) : ∀ (n : Nat) (x1 : Int32) (x2 : Int32) (sL : CS) (sX : CS) (sY : CS) (sN : CS) (sT : CS) (dc ds kc ks : Nat) , C_Lex_readString_26 N  n x1 x2 sL sX sY sN sT = some ((r, u), (dc, ds)) → ∀ (hdc : kc + dc ≤ DC) (hds : ks + ds ≤ DS) (b : Nat → Nat) (H : Heap) (locs : List Loc) (hW : WdC D A s (w_Lex dA o b sL sX sY sN sT) H locs) (ls : Array Slot) (hl : lv_has ls 4 [(0, .ref (o 80)), (1, .int x1), (2, .int x2)]), W p l e (rmC 3 126 DC DS) s m args below meth c H locs kc ks (MQ below (QC D A (fun Ws' ov => ∃ b' : Nat → Nat, Ws' = (w_Lex dA o b' u.1 sX u.2.1 sN u.2.2) ∧ ov = (some (.int r)))) args s DC DS A) (F0 m 26 ls []) := by
  have hx := C.1.1
  have hb := C.1.2.1
  have hown := C.1.2.2.2.2.1
  have hT := C.1.2.2.2.2.2.1
  intro n
  induction n with
  | zero => intro x1 x2 sL sX sY sN sT dc ds kc ks hM; cases hM
  | succ n hrec26 =>
    intro x1 x2 sL sX sY sN sT dc ds kc ks hM hdc hds b H locs hW ls hl
    rw [C_Lex_readString_26] at hM
    refine lv_iload_n (pc := 26) hx hb dC_Lex_readString_26 rfl (lv_at hl 2 rfl) ?_
    refine lv_if_le (pc := 27) (tgt := 87) hx hb dC_Lex_readString_27 (by decide) (fun hc => ?_) (fun hc => ?_)
    · replace hM := it_t hc hM
      exact bC_Lex_readString_87 N  C  _ _ _ _ _ _ _ _ _ _ hM (by omega) (by omega) _ _ _ hW _ (lv_sub hl [0, 1] rfl)
    · replace hM := it_f hc hM
      refine lv_aload_n (pc := 30) hx hb dC_Lex_readString_30 rfl (lv_at hl 0 rfl) ?_
      refine x_getC (pc := 31) C hW 0 rfl (ci := 6) rfl i_Lex 4 (by decide) qc_442 rfl rfl dC_Lex_readString_31 ?_
      refine lv_aload_n (pc := 34) hx hb dC_Lex_readString_34 rfl (lv_at hl 0 rfl) ?_
      refine x_getC (pc := 35) C hW 0 rfl (ci := 6) rfl i_Lex 0 (by decide) qc_438 rfl rfl dC_Lex_readString_35 ?_
      refine x_getC (pc := 38) C hW 1 rfl (ci := 1) rfl i_Row 0 (by decide) qc_55 rfl rfl dC_Lex_readString_38 ?_
      refine lv_icmp_ge (pc := 41) (tgt := 87) hx hb dC_Lex_readString_41 (by decide) (fun hc => ?_) (fun hc => ?_)
      · replace hM := it_t hc hM
        exact bC_Lex_readString_87 N  C  _ _ _ _ _ _ _ _ _ _ hM (by omega) (by omega) _ _ _ hW _ (lv_sub hl [0, 1] rfl)
      · replace hM := it_f hc hM
        refine lv_aload_n (pc := 44) hx hb dC_Lex_readString_44 rfl (lv_at hl 0 rfl) ?_
        refine x_getC (pc := 45) C hW 0 rfl (ci := 6) rfl i_Lex 0 (by decide) qc_438 rfl rfl dC_Lex_readString_45 ?_
        refine lv_aload_n (pc := 48) hx hb dC_Lex_readString_48 rfl (lv_at hl 0 rfl) ?_
        refine x_getC (pc := 49) C hW 0 rfl (ci := 6) rfl i_Lex 4 (by decide) qc_442 rfl rfl dC_Lex_readString_49 ?_
        obtain ⟨r1, hr1, hM⟩ := cr_some hM
        refine x_callQ (pc := 52) (n' := 29) (ov := some (.int r1)) C hW (kC_Row_get l D dA z (fun _ => o 0) (fun _ => b 0)  (sL.1 0) sX hr1) [1, 2, 0, 3, 4, 5, 6, 7, 8, 9, 10, 11, 12, 13, 14, 15, 16, 17, 18, 19, 20, 21, 22, 23, 24, 25, 26, 27, 28] rfl (by decide +kernel) rfl (ci := 1) rfl (q0 := 1) rfl gC_Lex_52 ⟨rfl, by decide, by decide, by decide +kernel⟩ ⟨Nat.le_of_ble_eq_true rfl, Nat.le_of_ble_eq_true rfl⟩ ⟨show _ ≤ DC by omega, show _ ≤ DS by omega⟩ (As := [.int (sL.1 0)]) (n := 1) rfl hl.1 rfl (Nat.le_of_ble_eq_true rfl) dC_Lex_readString_52 ?_
        refine lv_bipush (pc := 55) (v := 34) hx hb dC_Lex_readString_55 (by decide) ?_
        refine lv_icmp_eq (pc := 57) (tgt := 87) hx hb dC_Lex_readString_57 (by decide) (fun hc => ?_) (fun hc => ?_)
        · replace hM := it_t hc hM
          exact bC_Lex_readString_87 N  C  _ _ _ _ _ _ _ _ _ _ hM (by omega) (by omega) _ _ _ hW _ (lv_sub hl [0, 1] rfl)
        · replace hM := it_f hc hM
          refine lv_aload_n (pc := 60) hx hb dC_Lex_readString_60 rfl (lv_at hl 0 rfl) ?_
          refine lv_bipush (pc := 61) (v := 34) hx hb dC_Lex_readString_61 (by decide) ?_
          obtain ⟨r2, u3, hr2, hM⟩ := cl_some hM
          refine x_callC (pc := 63) (n' := 29) C hW (kC_Lex_readCharacter l D dA z o b  (34 : Int32) sL sX sY sN sT hr2) [0, 1, 2, 3, 4, 5, 6, 7, 8, 9, 10, 11, 12, 13, 14, 15, 16, 17, 18, 19, 20, 21, 22, 23, 24, 25, 26, 27, 28] rfl (by decide +kernel) rfl (ci := 6) rfl (q0 := 0) rfl gC_Lex_108 ⟨rfl, by decide, by decide, by decide +kernel⟩ ⟨Nat.le_of_ble_eq_true rfl, Nat.le_of_ble_eq_true rfl⟩ ⟨show _ + 0 ≤ DC by omega, show _ + 0 ≤ DS by omega⟩ (As := [.int (34 : Int32)]) (n := 1) rfl hl.1 rfl (Nat.le_of_ble_eq_true rfl) dC_Lex_readString_63 (fun Wc' ov H locs hPo hWn => ?_)
          obtain ⟨rfl, rfl⟩ := hPo
          have hW := hWn (w_Lex dA o b u3 sX sY sN sT) rfl rfl
          refine lv_istore_n (pc := 66) (lv' := [(3, .int r2), (0, .ref (o 80)), (1, .int x1), (2, .int x2)]) hx hb dC_Lex_readString_66 rfl hl (by decide) rfl (fun ls hl => ?_)
          refine lv_iload_n (pc := 67) hx hb dC_Lex_readString_67 rfl (lv_at hl 0 rfl) ?_
          refine lv_if_ge (pc := 68) (tgt := 73) hx hb dC_Lex_readString_68 (by decide) (fun hc => ?_) (fun hc => ?_)
          · replace hM := it_t hc hM
            refine lv_aload_n (pc := 73) hx hb dC_Lex_readString_73 rfl (lv_at hl 1 rfl) ?_
            refine x_getC (pc := 74) C hW 0 rfl (ci := 6) rfl i_Lex 3 (by decide) qc_441 rfl rfl dC_Lex_readString_74 ?_
            refine lv_iload_n (pc := 77) hx hb dC_Lex_readString_77 rfl (lv_at hl 0 rfl) ?_
            obtain ⟨r4, u5, da6, ea7, db8, eb9, hr4, hM, hqda6, hpda6⟩ := ct_some hM
            refine x_callC (pc := 78) (n' := 29) C hW (kC_Row_add l D dA z (fun _ => o 48) (fun _ => b 48)  r2 sY hr4) [3, 4, 0, 1, 2, 5, 6, 7, 8, 9, 10, 11, 12, 13, 14, 15, 16, 17, 18, 19, 20, 21, 22, 23, 24, 25, 26, 27, 28] rfl (by decide +kernel) rfl (ci := 1) rfl (q0 := 3) rfl gC_Lex_111 ⟨rfl, by decide, by decide, by decide +kernel⟩ ⟨Nat.le_of_ble_eq_true rfl, Nat.le_of_ble_eq_true rfl⟩ ⟨show _ + da6 ≤ DC by omega, show _ + ea7 ≤ DS by omega⟩ (As := [.int r2]) (n := 1) rfl hl.1 rfl (Nat.le_of_ble_eq_true rfl) dC_Lex_readString_78 (fun Wc' ov H locs hPo hWn => ?_)
            obtain ⟨b10, rfl, rfl⟩ := hPo
            have hW := hWn (w_Lex dA o (uN b 48 (b10 0)) u3 sX u5 sN sT) rfl rfl
            generalize uN b 48 (b10 0) = b at hW
            refine lv_iinc (pc := 81) (v := x2 + (-1 : Int32)) (lv' := [(2, .int (x2 + (-1 : Int32))), (3, .int r2), (0, .ref (o 80)), (1, .int x1)]) hx hb dC_Lex_readString_81 hl (k := 3) rfl rfl (by decide) rfl (fun ls hl => ?_)
            refine lv_goto (pc := 84) (tgt := 26) hx hb dC_Lex_readString_84 (by decide) ?_
            exact hrec26 _ _ _ _ _ _ _ _ _ _ _ hM (by omega) (by omega) _ _ _ hW _ (lv_sub hl [2, 3, 0] rfl)
          · replace hM := it_f hc hM
            refine lv_iconst (pc := 71) (v := 0) hx hb dC_Lex_readString_71 (by decide) ?_
            obtain ⟨rfl, rfl, rfl, rfl⟩ := sm_q hM
            exact x_retCz (pc := 72) C rfl rfl hW ⟨_, rfl, rfl⟩ (by omega) (by omega) dC_Lex_readString_72
def C_Lex_readString (N : Nat)  (sL : CS) (sX : CS) (sY : CS) (sN : CS) (sT : CS) : Option ((Int32 × (CS × CS × CS)) × (Nat × Nat)) :=
  bnd (cF sL 0 ((sL.1 0) + (1 : Int32))) (fun sL1 => C_Lex_readString_26 N  N (sY.1 0) (sX.1 0) sL1 sX sY sN sT)
set_option maxHeartbeats 4000000 in
set_option maxRecDepth 100000 in
theorem bC_Lex_readString_0 (N : Nat)  {r : Int32} {u : CS × CS × CS} {DC DS : Nat} (C : CxC R_Lex p s m args meth c cC_Lex_readString 4 (some .boolean) D dA z A)  (sL : CS) (sX : CS) (sY : CS) (sN : CS) (sT : CS) (dc ds kc ks : Nat) (hM : C_Lex_readString N   sL sX sY sN sT = some ((r, u), (dc, ds))) (hdc : kc + dc ≤ DC) (hds : ks + ds ≤ DS) (b : Nat → Nat) (H : Heap) (locs : List Loc) (hW : WdC D A s (w_Lex dA o b sL sX sY sN sT) H locs) (ls : Array Slot) (hl : lv_has ls 4 [(0, .ref (o 80))]) : W p l e (rmC 3 126 DC DS) s m args below meth c H locs kc ks (MQ below (QC D A (fun Ws' ov => ∃ b' : Nat → Nat, Ws' = (w_Lex dA o b' u.1 sX u.2.1 sN u.2.2) ∧ ov = (some (.int r)))) args s DC DS A) (F0 m 0 ls []) := by
  have hx := C.1.1
  have hb := C.1.2.1
  have hown := C.1.2.2.2.2.1
  have hT := C.1.2.2.2.2.2.1
  unfold C_Lex_readString at hM
  refine lv_aload_n (pc := 0) hx hb dC_Lex_readString_0 rfl (lv_at hl 0 rfl) ?_
  refine x_getC (pc := 1) C hW 0 rfl (ci := 6) rfl i_Lex 3 (by decide) qc_441 rfl rfl dC_Lex_readString_1 ?_
  refine x_getC (pc := 4) C hW 3 rfl (ci := 1) rfl i_Row 0 (by decide) qc_55 rfl rfl dC_Lex_readString_4 ?_
  refine lv_istore_n (pc := 7) (lv' := [(1, .int (sY.1 0)), (0, .ref (o 80))]) hx hb dC_Lex_readString_7 rfl hl (by decide) rfl (fun ls hl => ?_)
  refine lv_aload_n (pc := 8) hx hb dC_Lex_readString_8 rfl (lv_at hl 1 rfl) ?_
  refine lv_dup (pc := 9) hx hb dC_Lex_readString_9 rfl ?_
  refine x_getC (pc := 10) C hW 0 rfl (ci := 6) rfl i_Lex 4 (by decide) qc_442 rfl rfl dC_Lex_readString_10 ?_
  refine lv_iconst (pc := 13) (v := 1) hx hb dC_Lex_readString_13 (by decide) ?_
  refine lv_iadd (pc := 14) hx hb dC_Lex_readString_14 ?_
  refine x_putC (pc := 15) (ty := .int) (Ws' := (w_Lex dA o b (cF sL 0 ((sL.1 0) + (1 : Int32))) sX sY sN sT)) C hW 0 rfl (ci := 6) rfl i_Lex tok_Lex n_Lex 4 (by decide) qc_442 rfl rfl (by decide +kernel) rfl rfl (Nat.le_of_ble_eq_true rfl) rfl dC_Lex_readString_15 (fun H locs hW => ?_)
  obtain ⟨sL1, esL1, hM⟩ := bnd_some hM
  rw [← esL1] at hW
  refine lv_aload_n (pc := 18) hx hb dC_Lex_readString_18 rfl (lv_at hl 1 rfl) ?_
  refine x_getC (pc := 19) C hW 0 rfl (ci := 6) rfl i_Lex 0 (by decide) qc_438 rfl rfl dC_Lex_readString_19 ?_
  refine x_getC (pc := 22) C hW 1 rfl (ci := 1) rfl i_Row 0 (by decide) qc_55 rfl rfl dC_Lex_readString_22 ?_
  refine lv_istore_n (pc := 25) (lv' := [(2, .int (sX.1 0)), (1, .int (sY.1 0)), (0, .ref (o 80))]) hx hb dC_Lex_readString_25 rfl hl (by decide) rfl (fun ls hl => ?_)
  exact bC_Lex_readString_26 N  C  N _ _ _ _ _ _ _ _ _ _ _ hM (by omega) (by omega) _ _ _ hW _ (lv_sub hl [2, 1, 0] rfl)
theorem kC_Lex_readString (l : Launch) (D : va_G) (dA : Nat → ClassId) (z : Nat → Nat) (o b : Nat → Nat) (N : Nat)  (sL : CS) (sX : CS) (sY : CS) (sN : CS) (sT : CS) {r : Int32} {u : CS × CS × CS} {dc ds : Nat} (hM : C_Lex_readString N  sL sX sY sN sT = some ((r, u), (dc, ds))) : KC l D dA z yC_Lex_readString cC_Lex_readString 4 (some .boolean) 3 126 dc ds (w_Lex dA o b sL sX sY sN sT) [.ref (o 80)] (fun Ws' ov => ∃ b' : Nat → Nat, Ws' = (w_Lex dA o b' u.1 sX u.2.1 sN u.2.2) ∧ ov = (some (.int r))) := x_enterC (by decide +kernel) (Nat.le_of_ble_eq_true rfl) (fun p e s m args below meth c A C _ hW ls hl => bC_Lex_readString_0 N C  sL sX sY sN sT dc ds 0 0 hM (by omega) (by omega) b s.heap [] hW ls hl)
def C_Lex_readSign_162 (x1 : Int32) (sL : CS) (sX : CS) (sY : CS) (sN : CS) (sT : CS) : Option ((Int32 × (CS × CS)) × (Nat × Nat)) :=
  ct (C_Tok_add  x1 (0 : Int32) (0 : Int32) sT) (fun r1 u2 => bnd (cF sL 0 ((sL.1 0) + (1 : Int32))) (fun sL8 => some (((1 : Int32), (sL8, u2)), (0, 0))))
set_option maxHeartbeats 4000000 in
set_option maxRecDepth 100000 in
theorem bC_Lex_readSign_162  {r : Int32} {u : CS × CS} {DC DS : Nat} (C : CxC R_Lex p s m args meth c cC_Lex_readSign 2 (some .boolean) D dA z A) (x1 : Int32) (sL : CS) (sX : CS) (sY : CS) (sN : CS) (sT : CS) (dc ds kc ks : Nat) (hM : C_Lex_readSign_162  x1 sL sX sY sN sT = some ((r, u), (dc, ds))) (hdc : kc + dc ≤ DC) (hds : ks + ds ≤ DS) (b : Nat → Nat) (H : Heap) (locs : List Loc) (hW : WdC D A s (w_Lex dA o b sL sX sY sN sT) H locs) (ls : Array Slot) (hl : lv_has ls 2 [(0, .ref (o 80)), (1, .int x1)]) : W p l e (rmC 3 126 DC DS) s m args below meth c H locs kc ks (MQ below (QC D A (fun Ws' ov => ∃ b' : Nat → Nat, Ws' = (w_Lex dA o b' u.1 sX sY sN u.2) ∧ ov = (some (.int r)))) args s DC DS A) (F0 m 162 ls []) := by
  have hx := C.1.1
  have hb := C.1.2.1
  have hown := C.1.2.2.2.2.1
  have hT := C.1.2.2.2.2.2.1
  unfold C_Lex_readSign_162 at hM
  refine lv_aload_n (pc := 162) hx hb dC_Lex_readSign_162 rfl (lv_at hl 0 rfl) ?_
  refine x_getC (pc := 163) C hW 0 rfl (ci := 6) rfl i_Lex 2 (by decide) qc_440 rfl rfl dC_Lex_readSign_163 ?_
  refine lv_iload_n (pc := 166) hx hb dC_Lex_readSign_166 rfl (lv_at hl 1 rfl) ?_
  refine lv_iconst (pc := 167) (v := 0) hx hb dC_Lex_readSign_167 (by decide) ?_
  refine lv_iconst (pc := 168) (v := 0) hx hb dC_Lex_readSign_168 (by decide) ?_
  obtain ⟨r1, u2, da3, ea4, db5, eb6, hr1, hM, hqda3, hpda3⟩ := ct_some hM
  refine x_callC (pc := 169) (n' := 29) C hW (kC_Tok_add l D dA z o b  x1 (0 : Int32) (0 : Int32) sT hr1) [25, 26, 27, 28, 0, 1, 2, 3, 4, 5, 6, 7, 8, 9, 10, 11, 12, 13, 14, 15, 16, 17, 18, 19, 20, 21, 22, 23, 24] rfl (by decide +kernel) rfl (ci := 3) rfl (q0 := 25) rfl gC_Lex_48 ⟨rfl, by decide, by decide, by decide +kernel⟩ ⟨Nat.le_of_ble_eq_true rfl, Nat.le_of_ble_eq_true rfl⟩ ⟨show _ + da3 ≤ DC by omega, show _ + ea4 ≤ DS by omega⟩ (As := [.int x1, .int (0 : Int32), .int (0 : Int32)]) (n := 3) rfl hl.1 rfl (Nat.le_of_ble_eq_true rfl) dC_Lex_readSign_169 (fun Wc' ov H locs hPo hWn => ?_)
  obtain ⟨b7, rfl, rfl⟩ := hPo
  have hW := hWn (w_Lex dA o (mxs [2] b7 b) sL sX sY sN u2) rfl rfl
  generalize mxs [2] b7 b = b at hW
  refine lv_aload_n (pc := 172) hx hb dC_Lex_readSign_172 rfl (lv_at hl 0 rfl) ?_
  refine lv_dup (pc := 173) hx hb dC_Lex_readSign_173 rfl ?_
  refine x_getC (pc := 174) C hW 0 rfl (ci := 6) rfl i_Lex 4 (by decide) qc_442 rfl rfl dC_Lex_readSign_174 ?_
  refine lv_iconst (pc := 177) (v := 1) hx hb dC_Lex_readSign_177 (by decide) ?_
  refine lv_iadd (pc := 178) hx hb dC_Lex_readSign_178 ?_
  refine x_putC (pc := 179) (ty := .int) (Ws' := (w_Lex dA o b (cF sL 0 ((sL.1 0) + (1 : Int32))) sX sY sN u2)) C hW 0 rfl (ci := 6) rfl i_Lex tok_Lex n_Lex 4 (by decide) qc_442 rfl rfl (by decide +kernel) rfl rfl (Nat.le_of_ble_eq_true rfl) rfl dC_Lex_readSign_179 (fun H locs hW => ?_)
  obtain ⟨sL8, esL8, hM⟩ := bnd_some hM
  rw [← esL8] at hW
  refine lv_iconst (pc := 182) (v := 1) hx hb dC_Lex_readSign_182 (by decide) ?_
  obtain ⟨rfl, rfl, rfl, rfl⟩ := sm_q hM
  exact x_retCz (pc := 183) C rfl rfl hW ⟨_, rfl, rfl⟩ (by omega) (by omega) dC_Lex_readSign_183
def C_Lex_readSign_184 (x1 : Int32) (sL : CS) (sX : CS) (sY : CS) (sN : CS) (sT : CS) : Option ((Int32 × (CS × CS)) × (Nat × Nat)) :=
  cr (C_Row_get  ((sL.1 0) + (1 : Int32)) sX) (fun r1 => (if r1 = x1 then ct (C_Tok_add  x1 (0 : Int32) (0 : Int32) sT) (fun r2 u3 => bnd (cF sL 0 ((sL.1 0) + (2 : Int32))) (fun sL9 => some (((1 : Int32), (sL9, u3)), (0, 0)))) else some (((0 : Int32), (sL, sT)), (0, 0))))
set_option maxHeartbeats 4000000 in
set_option maxRecDepth 100000 in
theorem bC_Lex_readSign_184  {r : Int32} {u : CS × CS} {DC DS : Nat} (C : CxC R_Lex p s m args meth c cC_Lex_readSign 2 (some .boolean) D dA z A) (x1 : Int32) (sL : CS) (sX : CS) (sY : CS) (sN : CS) (sT : CS) (dc ds kc ks : Nat) (hM : C_Lex_readSign_184  x1 sL sX sY sN sT = some ((r, u), (dc, ds))) (hdc : kc + dc ≤ DC) (hds : ks + ds ≤ DS) (b : Nat → Nat) (H : Heap) (locs : List Loc) (hW : WdC D A s (w_Lex dA o b sL sX sY sN sT) H locs) (ls : Array Slot) (hl : lv_has ls 2 [(0, .ref (o 80)), (1, .int x1)]) : W p l e (rmC 3 126 DC DS) s m args below meth c H locs kc ks (MQ below (QC D A (fun Ws' ov => ∃ b' : Nat → Nat, Ws' = (w_Lex dA o b' u.1 sX sY sN u.2) ∧ ov = (some (.int r)))) args s DC DS A) (F0 m 184 ls []) := by
  have hx := C.1.1
  have hb := C.1.2.1
  have hown := C.1.2.2.2.2.1
  have hT := C.1.2.2.2.2.2.1
  unfold C_Lex_readSign_184 at hM
  refine lv_aload_n (pc := 184) hx hb dC_Lex_readSign_184 rfl (lv_at hl 0 rfl) ?_
  refine x_getC (pc := 185) C hW 0 rfl (ci := 6) rfl i_Lex 0 (by decide) qc_438 rfl rfl dC_Lex_readSign_185 ?_
  refine lv_aload_n (pc := 188) hx hb dC_Lex_readSign_188 rfl (lv_at hl 0 rfl) ?_
  refine x_getC (pc := 189) C hW 0 rfl (ci := 6) rfl i_Lex 4 (by decide) qc_442 rfl rfl dC_Lex_readSign_189 ?_
  refine lv_iconst (pc := 192) (v := 1) hx hb dC_Lex_readSign_192 (by decide) ?_
  refine lv_iadd (pc := 193) hx hb dC_Lex_readSign_193 ?_
  obtain ⟨r1, hr1, hM⟩ := cr_some hM
  refine x_callQ (pc := 194) (n' := 29) (ov := some (.int r1)) C hW (kC_Row_get l D dA z (fun _ => o 0) (fun _ => b 0)  ((sL.1 0) + (1 : Int32)) sX hr1) [1, 2, 0, 3, 4, 5, 6, 7, 8, 9, 10, 11, 12, 13, 14, 15, 16, 17, 18, 19, 20, 21, 22, 23, 24, 25, 26, 27, 28] rfl (by decide +kernel) rfl (ci := 1) rfl (q0 := 1) rfl gC_Lex_52 ⟨rfl, by decide, by decide, by decide +kernel⟩ ⟨Nat.le_of_ble_eq_true rfl, Nat.le_of_ble_eq_true rfl⟩ ⟨show _ ≤ DC by omega, show _ ≤ DS by omega⟩ (As := [.int ((sL.1 0) + (1 : Int32))]) (n := 1) rfl hl.1 rfl (Nat.le_of_ble_eq_true rfl) dC_Lex_readSign_194 ?_
  refine lv_iload_n (pc := 197) hx hb dC_Lex_readSign_197 rfl (lv_at hl 1 rfl) ?_
  refine lv_icmp_eq (pc := 198) (tgt := 203) hx hb dC_Lex_readSign_198 (by decide) (fun hc => ?_) (fun hc => ?_)
  · replace hM := it_t hc hM
    refine lv_aload_n (pc := 203) hx hb dC_Lex_readSign_203 rfl (lv_at hl 0 rfl) ?_
    refine x_getC (pc := 204) C hW 0 rfl (ci := 6) rfl i_Lex 2 (by decide) qc_440 rfl rfl dC_Lex_readSign_204 ?_
    refine lv_iload_n (pc := 207) hx hb dC_Lex_readSign_207 rfl (lv_at hl 1 rfl) ?_
    refine lv_iconst (pc := 208) (v := 0) hx hb dC_Lex_readSign_208 (by decide) ?_
    refine lv_iconst (pc := 209) (v := 0) hx hb dC_Lex_readSign_209 (by decide) ?_
    obtain ⟨r2, u3, da4, ea5, db6, eb7, hr2, hM, hqda4, hpda4⟩ := ct_some hM
    refine x_callC (pc := 210) (n' := 29) C hW (kC_Tok_add l D dA z o b  x1 (0 : Int32) (0 : Int32) sT hr2) [25, 26, 27, 28, 0, 1, 2, 3, 4, 5, 6, 7, 8, 9, 10, 11, 12, 13, 14, 15, 16, 17, 18, 19, 20, 21, 22, 23, 24] rfl (by decide +kernel) rfl (ci := 3) rfl (q0 := 25) rfl gC_Lex_48 ⟨rfl, by decide, by decide, by decide +kernel⟩ ⟨Nat.le_of_ble_eq_true rfl, Nat.le_of_ble_eq_true rfl⟩ ⟨show _ + da4 ≤ DC by omega, show _ + ea5 ≤ DS by omega⟩ (As := [.int x1, .int (0 : Int32), .int (0 : Int32)]) (n := 3) rfl hl.1 rfl (Nat.le_of_ble_eq_true rfl) dC_Lex_readSign_210 (fun Wc' ov H locs hPo hWn => ?_)
    obtain ⟨b8, rfl, rfl⟩ := hPo
    have hW := hWn (w_Lex dA o (mxs [2] b8 b) sL sX sY sN u3) rfl rfl
    generalize mxs [2] b8 b = b at hW
    refine lv_aload_n (pc := 213) hx hb dC_Lex_readSign_213 rfl (lv_at hl 0 rfl) ?_
    refine lv_dup (pc := 214) hx hb dC_Lex_readSign_214 rfl ?_
    refine x_getC (pc := 215) C hW 0 rfl (ci := 6) rfl i_Lex 4 (by decide) qc_442 rfl rfl dC_Lex_readSign_215 ?_
    refine lv_iconst (pc := 218) (v := 2) hx hb dC_Lex_readSign_218 (by decide) ?_
    refine lv_iadd (pc := 219) hx hb dC_Lex_readSign_219 ?_
    refine x_putC (pc := 220) (ty := .int) (Ws' := (w_Lex dA o b (cF sL 0 ((sL.1 0) + (2 : Int32))) sX sY sN u3)) C hW 0 rfl (ci := 6) rfl i_Lex tok_Lex n_Lex 4 (by decide) qc_442 rfl rfl (by decide +kernel) rfl rfl (Nat.le_of_ble_eq_true rfl) rfl dC_Lex_readSign_220 (fun H locs hW => ?_)
    obtain ⟨sL9, esL9, hM⟩ := bnd_some hM
    rw [← esL9] at hW
    refine lv_iconst (pc := 223) (v := 1) hx hb dC_Lex_readSign_223 (by decide) ?_
    obtain ⟨rfl, rfl, rfl, rfl⟩ := sm_q hM
    exact x_retCz (pc := 224) C rfl rfl hW ⟨_, rfl, rfl⟩ (by omega) (by omega) dC_Lex_readSign_224
  · replace hM := it_f hc hM
    refine lv_iconst (pc := 201) (v := 0) hx hb dC_Lex_readSign_201 (by decide) ?_
    obtain ⟨rfl, rfl, rfl, rfl⟩ := sm_q hM
    exact x_retCz (pc := 202) C rfl rfl hW ⟨_, rfl, rfl⟩ (by omega) (by omega) dC_Lex_readSign_202
def C_Lex_readSign (x1 : Int32) (sL : CS) (sX : CS) (sY : CS) (sN : CS) (sT : CS) : Option ((Int32 × (CS × CS)) × (Nat × Nat)) :=
  (if x1 = (10 : Int32) then ct (C_Tok_add  (0 : Int32) (0 : Int32) (0 : Int32) sT) (fun r2 u3 => bnd (cF sL 0 ((sL.1 0) + (1 : Int32))) (fun sL9 => some (((1 : Int32), (sL9, u3)), (0, 0)))) else (if x1 = (37 : Int32) then C_Lex_readSign_162  x1 sL sX sY sN sT else (if x1 = (38 : Int32) then C_Lex_readSign_162  x1 sL sX sY sN sT else (if x1 = (40 : Int32) then C_Lex_readSign_162  x1 sL sX sY sN sT else (if x1 = (41 : Int32) then C_Lex_readSign_162  x1 sL sX sY sN sT else (if x1 = (42 : Int32) then C_Lex_readSign_162  x1 sL sX sY sN sT else (if x1 = (43 : Int32) then C_Lex_readSign_162  x1 sL sX sY sN sT else (if x1 = (44 : Int32) then C_Lex_readSign_162  x1 sL sX sY sN sT else (if x1 = (45 : Int32) then C_Lex_readSign_162  x1 sL sX sY sN sT else (if x1 = (47 : Int32) then C_Lex_readSign_162  x1 sL sX sY sN sT else (if x1 = (58 : Int32) then C_Lex_readSign_162  x1 sL sX sY sN sT else (if x1 = (60 : Int32) then C_Lex_readSign_184  x1 sL sX sY sN sT else (if x1 = (62 : Int32) then C_Lex_readSign_184  x1 sL sX sY sN sT else (if x1 = (94 : Int32) then C_Lex_readSign_162  x1 sL sX sY sN sT else (if x1 = (124 : Int32) then C_Lex_readSign_162  x1 sL sX sY sN sT else (if x1 = (126 : Int32) then C_Lex_readSign_162  x1 sL sX sY sN sT else some (((0 : Int32), (sL, sT)), (0, 0))))))))))))))))))
set_option maxHeartbeats 4000000 in
set_option maxRecDepth 100000 in
theorem bC_Lex_readSign_0  {r : Int32} {u : CS × CS} {DC DS : Nat} (C : CxC R_Lex p s m args meth c cC_Lex_readSign 2 (some .boolean) D dA z A) (x1 : Int32) (sL : CS) (sX : CS) (sY : CS) (sN : CS) (sT : CS) (dc ds kc ks : Nat) (hM : C_Lex_readSign  x1 sL sX sY sN sT = some ((r, u), (dc, ds))) (hdc : kc + dc ≤ DC) (hds : ks + ds ≤ DS) (b : Nat → Nat) (H : Heap) (locs : List Loc) (hW : WdC D A s (w_Lex dA o b sL sX sY sN sT) H locs) (ls : Array Slot) (hl : lv_has ls 2 [(0, .ref (o 80)), (1, .int x1)]) : W p l e (rmC 3 126 DC DS) s m args below meth c H locs kc ks (MQ below (QC D A (fun Ws' ov => ∃ b' : Nat → Nat, Ws' = (w_Lex dA o b' u.1 sX sY sN u.2) ∧ ov = (some (.int r)))) args s DC DS A) (F0 m 0 ls []) := by
  have hx := C.1.1
  have hb := C.1.2.1
  have hown := C.1.2.2.2.2.1
  have hT := C.1.2.2.2.2.2.1
  unfold C_Lex_readSign at hM
  refine lv_iload_n (pc := 0) hx hb dC_Lex_readSign_0 rfl (lv_at hl 1 rfl) ?_
  by_cases k1_0 : x1 = (10 : Int32)
  · replace hM := it_t k1_0 hM
    refine lv_lookup (pc := 1) (off := 139) (tgt := 140) hx hb dC_Lex_readSign_1 (by decide) (by rw [k1_0]; decide) (by decide) ?_
    refine lv_aload_n (pc := 140) hx hb dC_Lex_readSign_140 rfl (lv_at hl 0 rfl) ?_
    refine x_getC (pc := 141) C hW 0 rfl (ci := 6) rfl i_Lex 2 (by decide) qc_440 rfl rfl dC_Lex_readSign_141 ?_
    refine lv_iconst (pc := 144) (v := 0) hx hb dC_Lex_readSign_144 (by decide) ?_
    refine lv_iconst (pc := 145) (v := 0) hx hb dC_Lex_readSign_145 (by decide) ?_
    refine lv_iconst (pc := 146) (v := 0) hx hb dC_Lex_readSign_146 (by decide) ?_
    obtain ⟨r2, u3, da4, ea5, db6, eb7, hr2, hM, hqda4, hpda4⟩ := ct_some hM
    refine x_callC (pc := 147) (n' := 29) C hW (kC_Tok_add l D dA z o b  (0 : Int32) (0 : Int32) (0 : Int32) sT hr2) [25, 26, 27, 28, 0, 1, 2, 3, 4, 5, 6, 7, 8, 9, 10, 11, 12, 13, 14, 15, 16, 17, 18, 19, 20, 21, 22, 23, 24] rfl (by decide +kernel) rfl (ci := 3) rfl (q0 := 25) rfl gC_Lex_48 ⟨rfl, by decide, by decide, by decide +kernel⟩ ⟨Nat.le_of_ble_eq_true rfl, Nat.le_of_ble_eq_true rfl⟩ ⟨show _ + da4 ≤ DC by omega, show _ + ea5 ≤ DS by omega⟩ (As := [.int (0 : Int32), .int (0 : Int32), .int (0 : Int32)]) (n := 3) rfl hl.1 rfl (Nat.le_of_ble_eq_true rfl) dC_Lex_readSign_147 (fun Wc' ov H locs hPo hWn => ?_)
    obtain ⟨b8, rfl, rfl⟩ := hPo
    have hW := hWn (w_Lex dA o (mxs [2] b8 b) sL sX sY sN u3) rfl rfl
    generalize mxs [2] b8 b = b at hW
    refine lv_aload_n (pc := 150) hx hb dC_Lex_readSign_150 rfl (lv_at hl 0 rfl) ?_
    refine lv_dup (pc := 151) hx hb dC_Lex_readSign_151 rfl ?_
    refine x_getC (pc := 152) C hW 0 rfl (ci := 6) rfl i_Lex 4 (by decide) qc_442 rfl rfl dC_Lex_readSign_152 ?_
    refine lv_iconst (pc := 155) (v := 1) hx hb dC_Lex_readSign_155 (by decide) ?_
    refine lv_iadd (pc := 156) hx hb dC_Lex_readSign_156 ?_
    refine x_putC (pc := 157) (ty := .int) (Ws' := (w_Lex dA o b (cF sL 0 ((sL.1 0) + (1 : Int32))) sX sY sN u3)) C hW 0 rfl (ci := 6) rfl i_Lex tok_Lex n_Lex 4 (by decide) qc_442 rfl rfl (by decide +kernel) rfl rfl (Nat.le_of_ble_eq_true rfl) rfl dC_Lex_readSign_157 (fun H locs hW => ?_)
    obtain ⟨sL9, esL9, hM⟩ := bnd_some hM
    rw [← esL9] at hW
    refine lv_iconst (pc := 160) (v := 1) hx hb dC_Lex_readSign_160 (by decide) ?_
    obtain ⟨rfl, rfl, rfl, rfl⟩ := sm_q hM
    exact x_retCz (pc := 161) C rfl rfl hW ⟨_, rfl, rfl⟩ (by omega) (by omega) dC_Lex_readSign_161
  · replace hM := it_f k1_0 hM
    by_cases k1_1 : x1 = (37 : Int32)
    · replace hM := it_t k1_1 hM
      refine lv_lookup (pc := 1) (off := 161) (tgt := 162) hx hb dC_Lex_readSign_1 (by decide) (by rw [k1_1]; decide) (by decide) ?_
      exact bC_Lex_readSign_162  C  _ _ _ _ _ _ _ _ _ _ hM (by omega) (by omega) _ _ _ hW _ (lv_sub hl [0, 1] rfl)
    · replace hM := it_f k1_1 hM
      by_cases k1_2 : x1 = (38 : Int32)
      · replace hM := it_t k1_2 hM
        refine lv_lookup (pc := 1) (off := 161) (tgt := 162) hx hb dC_Lex_readSign_1 (by decide) (by rw [k1_2]; decide) (by decide) ?_
        exact bC_Lex_readSign_162  C  _ _ _ _ _ _ _ _ _ _ hM (by omega) (by omega) _ _ _ hW _ (lv_sub hl [0, 1] rfl)
      · replace hM := it_f k1_2 hM
        by_cases k1_3 : x1 = (40 : Int32)
        · replace hM := it_t k1_3 hM
          refine lv_lookup (pc := 1) (off := 161) (tgt := 162) hx hb dC_Lex_readSign_1 (by decide) (by rw [k1_3]; decide) (by decide) ?_
          exact bC_Lex_readSign_162  C  _ _ _ _ _ _ _ _ _ _ hM (by omega) (by omega) _ _ _ hW _ (lv_sub hl [0, 1] rfl)
        · replace hM := it_f k1_3 hM
          by_cases k1_4 : x1 = (41 : Int32)
          · replace hM := it_t k1_4 hM
            refine lv_lookup (pc := 1) (off := 161) (tgt := 162) hx hb dC_Lex_readSign_1 (by decide) (by rw [k1_4]; decide) (by decide) ?_
            exact bC_Lex_readSign_162  C  _ _ _ _ _ _ _ _ _ _ hM (by omega) (by omega) _ _ _ hW _ (lv_sub hl [0, 1] rfl)
          · replace hM := it_f k1_4 hM
            by_cases k1_5 : x1 = (42 : Int32)
            · replace hM := it_t k1_5 hM
              refine lv_lookup (pc := 1) (off := 161) (tgt := 162) hx hb dC_Lex_readSign_1 (by decide) (by rw [k1_5]; decide) (by decide) ?_
              exact bC_Lex_readSign_162  C  _ _ _ _ _ _ _ _ _ _ hM (by omega) (by omega) _ _ _ hW _ (lv_sub hl [0, 1] rfl)
            · replace hM := it_f k1_5 hM
              by_cases k1_6 : x1 = (43 : Int32)
              · replace hM := it_t k1_6 hM
                refine lv_lookup (pc := 1) (off := 161) (tgt := 162) hx hb dC_Lex_readSign_1 (by decide) (by rw [k1_6]; decide) (by decide) ?_
                exact bC_Lex_readSign_162  C  _ _ _ _ _ _ _ _ _ _ hM (by omega) (by omega) _ _ _ hW _ (lv_sub hl [0, 1] rfl)
              · replace hM := it_f k1_6 hM
                by_cases k1_7 : x1 = (44 : Int32)
                · replace hM := it_t k1_7 hM
                  refine lv_lookup (pc := 1) (off := 161) (tgt := 162) hx hb dC_Lex_readSign_1 (by decide) (by rw [k1_7]; decide) (by decide) ?_
                  exact bC_Lex_readSign_162  C  _ _ _ _ _ _ _ _ _ _ hM (by omega) (by omega) _ _ _ hW _ (lv_sub hl [0, 1] rfl)
                · replace hM := it_f k1_7 hM
                  by_cases k1_8 : x1 = (45 : Int32)
                  · replace hM := it_t k1_8 hM
                    refine lv_lookup (pc := 1) (off := 161) (tgt := 162) hx hb dC_Lex_readSign_1 (by decide) (by rw [k1_8]; decide) (by decide) ?_
                    exact bC_Lex_readSign_162  C  _ _ _ _ _ _ _ _ _ _ hM (by omega) (by omega) _ _ _ hW _ (lv_sub hl [0, 1] rfl)
                  · replace hM := it_f k1_8 hM
                    by_cases k1_9 : x1 = (47 : Int32)
                    · replace hM := it_t k1_9 hM
                      refine lv_lookup (pc := 1) (off := 161) (tgt := 162) hx hb dC_Lex_readSign_1 (by decide) (by rw [k1_9]; decide) (by decide) ?_
                      exact bC_Lex_readSign_162  C  _ _ _ _ _ _ _ _ _ _ hM (by omega) (by omega) _ _ _ hW _ (lv_sub hl [0, 1] rfl)
                    · replace hM := it_f k1_9 hM
                      by_cases k1_10 : x1 = (58 : Int32)
                      · replace hM := it_t k1_10 hM
                        refine lv_lookup (pc := 1) (off := 161) (tgt := 162) hx hb dC_Lex_readSign_1 (by decide) (by rw [k1_10]; decide) (by decide) ?_
                        exact bC_Lex_readSign_162  C  _ _ _ _ _ _ _ _ _ _ hM (by omega) (by omega) _ _ _ hW _ (lv_sub hl [0, 1] rfl)
                      · replace hM := it_f k1_10 hM
                        by_cases k1_11 : x1 = (60 : Int32)
                        · replace hM := it_t k1_11 hM
                          refine lv_lookup (pc := 1) (off := 183) (tgt := 184) hx hb dC_Lex_readSign_1 (by decide) (by rw [k1_11]; decide) (by decide) ?_
                          exact bC_Lex_readSign_184  C  _ _ _ _ _ _ _ _ _ _ hM (by omega) (by omega) _ _ _ hW _ (lv_sub hl [0, 1] rfl)
                        · replace hM := it_f k1_11 hM
                          by_cases k1_12 : x1 = (62 : Int32)
                          · replace hM := it_t k1_12 hM
                            refine lv_lookup (pc := 1) (off := 183) (tgt := 184) hx hb dC_Lex_readSign_1 (by decide) (by rw [k1_12]; decide) (by decide) ?_
                            exact bC_Lex_readSign_184  C  _ _ _ _ _ _ _ _ _ _ hM (by omega) (by omega) _ _ _ hW _ (lv_sub hl [0, 1] rfl)
                          · replace hM := it_f k1_12 hM
                            by_cases k1_13 : x1 = (94 : Int32)
                            · replace hM := it_t k1_13 hM
                              refine lv_lookup (pc := 1) (off := 161) (tgt := 162) hx hb dC_Lex_readSign_1 (by decide) (by rw [k1_13]; decide) (by decide) ?_
                              exact bC_Lex_readSign_162  C  _ _ _ _ _ _ _ _ _ _ hM (by omega) (by omega) _ _ _ hW _ (lv_sub hl [0, 1] rfl)
                            · replace hM := it_f k1_13 hM
                              by_cases k1_14 : x1 = (124 : Int32)
                              · replace hM := it_t k1_14 hM
                                refine lv_lookup (pc := 1) (off := 161) (tgt := 162) hx hb dC_Lex_readSign_1 (by decide) (by rw [k1_14]; decide) (by decide) ?_
                                exact bC_Lex_readSign_162  C  _ _ _ _ _ _ _ _ _ _ hM (by omega) (by omega) _ _ _ hW _ (lv_sub hl [0, 1] rfl)
                              · replace hM := it_f k1_14 hM
                                by_cases k1_15 : x1 = (126 : Int32)
                                · replace hM := it_t k1_15 hM
                                  refine lv_lookup (pc := 1) (off := 161) (tgt := 162) hx hb dC_Lex_readSign_1 (by decide) (by rw [k1_15]; decide) (by decide) ?_
                                  exact bC_Lex_readSign_162  C  _ _ _ _ _ _ _ _ _ _ hM (by omega) (by omega) _ _ _ hW _ (lv_sub hl [0, 1] rfl)
                                · replace hM := it_f k1_15 hM
                                  refine lv_lookup (pc := 1) (off := 224) (tgt := 225) hx hb dC_Lex_readSign_1 (by decide) (by rw [lv_osw k1_0 (by decide)]; rw [lv_osw k1_1 (by decide)]; rw [lv_osw k1_2 (by decide)]; rw [lv_osw k1_3 (by decide)]; rw [lv_osw k1_4 (by decide)]; rw [lv_osw k1_5 (by decide)]; rw [lv_osw k1_6 (by decide)]; rw [lv_osw k1_7 (by decide)]; rw [lv_osw k1_8 (by decide)]; rw [lv_osw k1_9 (by decide)]; rw [lv_osw k1_10 (by decide)]; rw [lv_osw k1_11 (by decide)]; rw [lv_osw k1_12 (by decide)]; rw [lv_osw k1_13 (by decide)]; rw [lv_osw k1_14 (by decide)]; rw [lv_osw k1_15 (by decide)]; rfl) (by decide) ?_
                                  refine lv_iconst (pc := 225) (v := 0) hx hb dC_Lex_readSign_225 (by decide) ?_
                                  obtain ⟨rfl, rfl, rfl, rfl⟩ := sm_q hM
                                  exact x_retCz (pc := 226) C rfl rfl hW ⟨_, rfl, rfl⟩ (by omega) (by omega) dC_Lex_readSign_226
theorem kC_Lex_readSign (l : Launch) (D : va_G) (dA : Nat → ClassId) (z : Nat → Nat) (o b : Nat → Nat) (x1 : Int32) (sL : CS) (sX : CS) (sY : CS) (sN : CS) (sT : CS) {r : Int32} {u : CS × CS} {dc ds : Nat} (hM : C_Lex_readSign x1 sL sX sY sN sT = some ((r, u), (dc, ds))) : KC l D dA z yC_Lex_readSign cC_Lex_readSign 2 (some .boolean) 3 126 dc ds (w_Lex dA o b sL sX sY sN sT) [.ref (o 80), .int x1] (fun Ws' ov => ∃ b' : Nat → Nat, Ws' = (w_Lex dA o b' u.1 sX sY sN u.2) ∧ ov = (some (.int r))) := x_enterC (by decide +kernel) (Nat.le_of_ble_eq_true rfl) (fun p e s m args below meth c A C _ hW ls hl => bC_Lex_readSign_0 C x1 sL sX sY sN sT dc ds 0 0 hM (by omega) (by omega) b s.heap [] hW ls hl)
def C_Lex_readToken_24 (N : Nat)  (sL : CS) (sX : CS) (sY : CS) (sN : CS) (sT : CS) : Option ((Int32 × (CS × CS × CS × CS)) × (Nat × Nat)) :=
  bnd (cF sL 0 ((sL.1 0) + (1 : Int32))) (fun sL1 => some (((1 : Int32), (sL1, sY, sN, sT)), (0, 0)))
set_option maxHeartbeats 4000000 in
set_option maxRecDepth 100000 in
theorem bC_Lex_readToken_24 (N : Nat)  {r : Int32} {u : CS × CS × CS × CS} {DC DS : Nat} (C : CxC R_Lex p s m args meth c cC_Lex_readToken 2 (some .boolean) D dA z A)  (sL : CS) (sX : CS) (sY : CS) (sN : CS) (sT : CS) (dc ds kc ks : Nat) (hM : C_Lex_readToken_24 N   sL sX sY sN sT = some ((r, u), (dc, ds))) (hdc : kc + dc ≤ DC) (hds : ks + ds ≤ DS) (b : Nat → Nat) (H : Heap) (locs : List Loc) (hW : WdC D A s (w_Lex dA o b sL sX sY sN sT) H locs) (ls : Array Slot) (hl : lv_has ls 2 [(0, .ref (o 80))]) : W p l e (rmC 5 173 DC DS) s m args below meth c H locs kc ks (MQ below (QC D A (fun Ws' ov => ∃ b' : Nat → Nat, Ws' = (w_Lex dA o b' u.1 sX u.2.1 u.2.2.1 u.2.2.2) ∧ ov = (some (.int r)))) args s DC DS A) (F0 m 24 ls []) := by
  have hx := C.1.1
  have hb := C.1.2.1
  have hown := C.1.2.2.2.2.1
  have hT := C.1.2.2.2.2.2.1
  unfold C_Lex_readToken_24 at hM
  refine lv_aload_n (pc := 24) hx hb dC_Lex_readToken_24 rfl (lv_at hl 0 rfl) ?_
  refine lv_dup (pc := 25) hx hb dC_Lex_readToken_25 rfl ?_
  refine x_getC (pc := 26) C hW 0 rfl (ci := 6) rfl i_Lex 4 (by decide) qc_442 rfl rfl dC_Lex_readToken_26 ?_
  refine lv_iconst (pc := 29) (v := 1) hx hb dC_Lex_readToken_29 (by decide) ?_
  refine lv_iadd (pc := 30) hx hb dC_Lex_readToken_30 ?_
  refine x_putC (pc := 31) (ty := .int) (Ws' := (w_Lex dA o b (cF sL 0 ((sL.1 0) + (1 : Int32))) sX sY sN sT)) C hW 0 rfl (ci := 6) rfl i_Lex tok_Lex n_Lex 4 (by decide) qc_442 rfl rfl (by decide +kernel) rfl rfl (Nat.le_of_ble_eq_true rfl) rfl dC_Lex_readToken_31 (fun H locs hW => ?_)
  obtain ⟨sL1, esL1, hM⟩ := bnd_some hM
  rw [← esL1] at hW
  refine lv_iconst (pc := 34) (v := 1) hx hb dC_Lex_readToken_34 (by decide) ?_
  obtain ⟨rfl, rfl, rfl, rfl⟩ := sm_q hM
  exact x_retCz (pc := 35) C rfl rfl hW ⟨_, rfl, rfl⟩ (by omega) (by omega) dC_Lex_readToken_35
def C_Lex_readToken_101 (N : Nat) (t0 : Int32) (sL : CS) (sX : CS) (sY : CS) (sN : CS) (sT : CS) : Option ((Int32 × (CS × CS × CS × CS)) × (Nat × Nat)) :=
  gd (isB t0) (some ((t0, (sL, sY, sN, sT)), (0, 0)))
set_option maxHeartbeats 4000000 in
set_option maxRecDepth 100000 in
theorem bC_Lex_readToken_101 (N : Nat)  {r : Int32} {u : CS × CS × CS × CS} {DC DS : Nat} (C : CxC R_Lex p s m args meth c cC_Lex_readToken 2 (some .boolean) D dA z A) (t0 : Int32) (sL : CS) (sX : CS) (sY : CS) (sN : CS) (sT : CS) (dc ds kc ks : Nat) (hM : C_Lex_readToken_101 N  t0 sL sX sY sN sT = some ((r, u), (dc, ds))) (hdc : kc + dc ≤ DC) (hds : ks + ds ≤ DS) (b : Nat → Nat) (H : Heap) (locs : List Loc) (hW : WdC D A s (w_Lex dA o b sL sX sY sN sT) H locs) (ls : Array Slot) (hl : lv_has ls 2 []) : W p l e (rmC 5 173 DC DS) s m args below meth c H locs kc ks (MQ below (QC D A (fun Ws' ov => ∃ b' : Nat → Nat, Ws' = (w_Lex dA o b' u.1 sX u.2.1 u.2.2.1 u.2.2.2) ∧ ov = (some (.int r)))) args s DC DS A) (F0 m 101 ls [.int t0]) := by
  have hx := C.1.1
  have hb := C.1.2.1
  have hown := C.1.2.2.2.2.1
  have hT := C.1.2.2.2.2.2.1
  unfold C_Lex_readToken_101 at hM
  obtain ⟨hg1, hM⟩ := gd_some hM
  obtain ⟨rfl, rfl, rfl, rfl⟩ := sm_q hM
  exact x_retCz (pc := 101) C rfl (isB_n hg1) hW ⟨_, rfl, rfl⟩ (by omega) (by omega) dC_Lex_readToken_101
def C_Lex_readToken (N : Nat)  (sL : CS) (sX : CS) (sY : CS) (sN : CS) (sT : CS) : Option ((Int32 × (CS × CS × CS × CS)) × (Nat × Nat)) :=
  cr (C_Row_get  (sL.1 0) sX) (fun r1 => (if r1 = (32 : Int32) then C_Lex_readToken_24 N  sL sX sY sN sT else (if r1 = (9 : Int32) then C_Lex_readToken_24 N  sL sX sY sN sT else (if r1 = (35 : Int32) then cl (C_Lex_skipRemark N sL sX sY sN sT) (fun r42 u43 => some (((1 : Int32), (u43, sY, sN, sT)), (0, 0))) else cr (C_Lex_isDigit  r1) (fun r2 => (if r2 = 0 then cr (C_Lex_isOfName  r1) (fun r3 => (if r3 = 0 then (if r1 = (39 : Int32) then ct (C_Lex_readQuoted  sL sX sY sN sT) (fun r18 u19 => gd (isB r18) (some ((r18, (u19.1, sY, sN, u19.2)), (0, 0)))) else (if r1 = (34 : Int32) then ct (C_Lex_readString N sL sX sY sN sT) (fun r11 u12 => C_Lex_readToken_101 N  r11 u12.1 sX u12.2.1 sN u12.2.2) else ct (C_Lex_readSign  r1 sL sX sY sN sT) (fun r4 u5 => C_Lex_readToken_101 N  r4 u5.1 sX sY sN u5.2))) else ct (C_Lex_readName N sL sX sY sN sT) (fun r26 u27 => gd (isB r26) (some ((r26, (u27.1, sY, u27.2.1, u27.2.2)), (0, 0)))))) else ct (C_Lex_readNumber N sL sX sY sN sT) (fun r34 u35 => gd (isB r34) (some ((r34, (u35.1, sY, sN, u35.2)), (0, 0))))))))))
set_option maxHeartbeats 4000000 in
set_option maxRecDepth 100000 in
theorem bC_Lex_readToken_0 (N : Nat)  {r : Int32} {u : CS × CS × CS × CS} {DC DS : Nat} (C : CxC R_Lex p s m args meth c cC_Lex_readToken 2 (some .boolean) D dA z A)  (sL : CS) (sX : CS) (sY : CS) (sN : CS) (sT : CS) (dc ds kc ks : Nat) (hM : C_Lex_readToken N   sL sX sY sN sT = some ((r, u), (dc, ds))) (hdc : kc + dc ≤ DC) (hds : ks + ds ≤ DS) (b : Nat → Nat) (H : Heap) (locs : List Loc) (hW : WdC D A s (w_Lex dA o b sL sX sY sN sT) H locs) (ls : Array Slot) (hl : lv_has ls 2 [(0, .ref (o 80))]) : W p l e (rmC 5 173 DC DS) s m args below meth c H locs kc ks (MQ below (QC D A (fun Ws' ov => ∃ b' : Nat → Nat, Ws' = (w_Lex dA o b' u.1 sX u.2.1 u.2.2.1 u.2.2.2) ∧ ov = (some (.int r)))) args s DC DS A) (F0 m 0 ls []) := by
  have hx := C.1.1
  have hb := C.1.2.1
  have hown := C.1.2.2.2.2.1
  have hT := C.1.2.2.2.2.2.1
  unfold C_Lex_readToken at hM
  refine lv_aload_n (pc := 0) hx hb dC_Lex_readToken_0 rfl (lv_at hl 0 rfl) ?_
  refine x_getC (pc := 1) C hW 0 rfl (ci := 6) rfl i_Lex 0 (by decide) qc_438 rfl rfl dC_Lex_readToken_1 ?_
  refine lv_aload_n (pc := 4) hx hb dC_Lex_readToken_4 rfl (lv_at hl 0 rfl) ?_
  refine x_getC (pc := 5) C hW 0 rfl (ci := 6) rfl i_Lex 4 (by decide) qc_442 rfl rfl dC_Lex_readToken_5 ?_
  obtain ⟨r1, hr1, hM⟩ := cr_some hM
  refine x_callQ (pc := 8) (n' := 29) (ov := some (.int r1)) C hW (kC_Row_get l D dA z (fun _ => o 0) (fun _ => b 0)  (sL.1 0) sX hr1) [1, 2, 0, 3, 4, 5, 6, 7, 8, 9, 10, 11, 12, 13, 14, 15, 16, 17, 18, 19, 20, 21, 22, 23, 24, 25, 26, 27, 28] rfl (by decide +kernel) rfl (ci := 1) rfl (q0 := 1) rfl gC_Lex_52 ⟨rfl, by decide, by decide, by decide +kernel⟩ ⟨Nat.le_of_ble_eq_true rfl, Nat.le_of_ble_eq_true rfl⟩ ⟨show _ ≤ DC by omega, show _ ≤ DS by omega⟩ (As := [.int (sL.1 0)]) (n := 1) rfl hl.1 rfl (Nat.le_of_ble_eq_true rfl) dC_Lex_readToken_8 ?_
  refine lv_istore_n (pc := 11) (lv' := [(1, .int r1), (0, .ref (o 80))]) hx hb dC_Lex_readToken_11 rfl hl (by decide) rfl (fun ls hl => ?_)
  refine lv_iload_n (pc := 12) hx hb dC_Lex_readToken_12 rfl (lv_at hl 0 rfl) ?_
  refine lv_bipush (pc := 13) (v := 32) hx hb dC_Lex_readToken_13 (by decide) ?_
  refine lv_icmp_eq (pc := 15) (tgt := 24) hx hb dC_Lex_readToken_15 (by decide) (fun hc => ?_) (fun hc => ?_)
  · replace hM := it_t hc hM
    exact bC_Lex_readToken_24 N  C  _ _ _ _ _ _ _ _ _ hM (by omega) (by omega) _ _ _ hW _ (lv_sub hl [1] rfl)
  · replace hM := it_f hc hM
    refine lv_iload_n (pc := 18) hx hb dC_Lex_readToken_18 rfl (lv_at hl 0 rfl) ?_
    refine lv_bipush (pc := 19) (v := 9) hx hb dC_Lex_readToken_19 (by decide) ?_
    refine lv_icmp_ne (pc := 21) (tgt := 36) hx hb dC_Lex_readToken_21 (by decide) (fun hc => ?_) (fun hc => ?_)
    · replace hM := it_f hc hM
      refine lv_iload_n (pc := 36) hx hb dC_Lex_readToken_36 rfl (lv_at hl 0 rfl) ?_
      refine lv_bipush (pc := 37) (v := 35) hx hb dC_Lex_readToken_37 (by decide) ?_
      refine lv_icmp_ne (pc := 39) (tgt := 48) hx hb dC_Lex_readToken_39 (by decide) (fun hc => ?_) (fun hc => ?_)
      · replace hM := it_f hc hM
        refine lv_iload_n (pc := 48) hx hb dC_Lex_readToken_48 rfl (lv_at hl 0 rfl) ?_
        obtain ⟨r2, hr2, hM⟩ := cr_some hM
        refine x_callU (pc := 49) (ov := some (.int r2)) C.1 (kC_Lex_isDigit l  r1 hr2) qc_1020 qc_1018 qc_1019 qc_19 ⟨by decide, by decide, by decide +kernel⟩ ⟨rfl, rfl⟩ ⟨Nat.le_of_ble_eq_true rfl, Nat.le_of_ble_eq_true rfl⟩ ⟨show _ ≤ DC by omega, show _ ≤ DS by omega⟩ (As := [.int r1]) (n := 1) rfl hl.1 rfl (Nat.le_of_ble_eq_true rfl) dC_Lex_readToken_49 ?_
        refine lv_if_eq (pc := 52) (tgt := 60) hx hb dC_Lex_readToken_52 (by decide) (fun hc => ?_) (fun hc => ?_)
        · replace hM := it_t hc hM
          refine lv_iload_n (pc := 60) hx hb dC_Lex_readToken_60 rfl (lv_at hl 0 rfl) ?_
          obtain ⟨r3, hr3, hM⟩ := cr_some hM
          refine x_callU (pc := 61) (ov := some (.int r3)) C.1 (kC_Lex_isOfName l  r1 hr3) qc_1038 qc_1036 qc_1037 qc_19 ⟨by decide, by decide, by decide +kernel⟩ ⟨rfl, rfl⟩ ⟨Nat.le_of_ble_eq_true rfl, Nat.le_of_ble_eq_true rfl⟩ ⟨show _ ≤ DC by omega, show _ ≤ DS by omega⟩ (As := [.int r1]) (n := 1) rfl hl.1 rfl (Nat.le_of_ble_eq_true rfl) dC_Lex_readToken_61 ?_
          refine lv_if_eq (pc := 64) (tgt := 72) hx hb dC_Lex_readToken_64 (by decide) (fun hc => ?_) (fun hc => ?_)
          · replace hM := it_t hc hM
            refine lv_iload_n (pc := 72) hx hb dC_Lex_readToken_72 rfl (lv_at hl 0 rfl) ?_
            refine lv_bipush (pc := 73) (v := 39) hx hb dC_Lex_readToken_73 (by decide) ?_
            refine lv_icmp_ne (pc := 75) (tgt := 83) hx hb dC_Lex_readToken_75 (by decide) (fun hc => ?_) (fun hc => ?_)
            · replace hM := it_f hc hM
              refine lv_iload_n (pc := 83) hx hb dC_Lex_readToken_83 rfl (lv_at hl 0 rfl) ?_
              refine lv_bipush (pc := 84) (v := 34) hx hb dC_Lex_readToken_84 (by decide) ?_
              refine lv_icmp_ne (pc := 86) (tgt := 96) hx hb dC_Lex_readToken_86 (by decide) (fun hc => ?_) (fun hc => ?_)
              · replace hM := it_f hc hM
                refine lv_aload_n (pc := 96) hx hb dC_Lex_readToken_96 rfl (lv_at hl 1 rfl) ?_
                refine lv_iload_n (pc := 97) hx hb dC_Lex_readToken_97 rfl (lv_at hl 0 rfl) ?_
                obtain ⟨r4, u5, da6, ea7, db8, eb9, hr4, hM, hqda6, hpda6⟩ := ct_some hM
                refine x_callC (pc := 98) (n' := 29) C hW (kC_Lex_readSign l D dA z o b  r1 sL sX sY sN sT hr4) [0, 1, 2, 3, 4, 5, 6, 7, 8, 9, 10, 11, 12, 13, 14, 15, 16, 17, 18, 19, 20, 21, 22, 23, 24, 25, 26, 27, 28] rfl (by decide +kernel) rfl (ci := 6) rfl (q0 := 0) rfl gC_Lex_78 ⟨rfl, by decide, by decide, by decide +kernel⟩ ⟨Nat.le_of_ble_eq_true rfl, Nat.le_of_ble_eq_true rfl⟩ ⟨show _ + da6 ≤ DC by omega, show _ + ea7 ≤ DS by omega⟩ (As := [.int r1]) (n := 1) rfl hl.1 rfl (Nat.le_of_ble_eq_true rfl) dC_Lex_readToken_98 (fun Wc' ov H locs hPo hWn => ?_)
                obtain ⟨b10, rfl, rfl⟩ := hPo
                have hW := hWn (w_Lex dA o (mxs [0, 1, 2, 3] b10 b) u5.1 sX sY sN u5.2) rfl rfl
                generalize mxs [0, 1, 2, 3] b10 b = b at hW
                exact bC_Lex_readToken_101 N  C  _ _ _ _ _ _ _ _ _ _ hM (by omega) (by omega) _ _ _ hW _ (lv_sub hl [] rfl)
              · replace hM := it_t hc hM
                refine lv_aload_n (pc := 89) hx hb dC_Lex_readToken_89 rfl (lv_at hl 1 rfl) ?_
                obtain ⟨r11, u12, da13, ea14, db15, eb16, hr11, hM, hqda13, hpda13⟩ := ct_some hM
                refine x_callC (pc := 90) (n' := 29) C hW (kC_Lex_readString l D dA z o b N sL sX sY sN sT hr11) [0, 1, 2, 3, 4, 5, 6, 7, 8, 9, 10, 11, 12, 13, 14, 15, 16, 17, 18, 19, 20, 21, 22, 23, 24, 25, 26, 27, 28] rfl (by decide +kernel) rfl (ci := 6) rfl (q0 := 0) rfl gC_Lex_75 ⟨rfl, by decide, by decide, by decide +kernel⟩ ⟨Nat.le_of_ble_eq_true rfl, Nat.le_of_ble_eq_true rfl⟩ ⟨show _ + da13 ≤ DC by omega, show _ + ea14 ≤ DS by omega⟩ (As := []) (n := 0) rfl hl.1 rfl (Nat.le_of_ble_eq_true rfl) dC_Lex_readToken_90 (fun Wc' ov H locs hPo hWn => ?_)
                obtain ⟨b17, rfl, rfl⟩ := hPo
                have hW := hWn (w_Lex dA o (mxs [0, 1, 2, 3] b17 b) u12.1 sX u12.2.1 sN u12.2.2) rfl rfl
                generalize mxs [0, 1, 2, 3] b17 b = b at hW
                refine lv_goto (pc := 93) (tgt := 101) hx hb dC_Lex_readToken_93 (by decide) ?_
                exact bC_Lex_readToken_101 N  C  _ _ _ _ _ _ _ _ _ _ hM (by omega) (by omega) _ _ _ hW _ (lv_sub hl [] rfl)
            · replace hM := it_t hc hM
              refine lv_aload_n (pc := 78) hx hb dC_Lex_readToken_78 rfl (lv_at hl 1 rfl) ?_
              obtain ⟨r18, u19, da20, ea21, db22, eb23, hr18, hM, hqda20, hpda20⟩ := ct_some hM
              refine x_callC (pc := 79) (n' := 29) C hW (kC_Lex_readQuoted l D dA z o b  sL sX sY sN sT hr18) [0, 1, 2, 3, 4, 5, 6, 7, 8, 9, 10, 11, 12, 13, 14, 15, 16, 17, 18, 19, 20, 21, 22, 23, 24, 25, 26, 27, 28] rfl (by decide +kernel) rfl (ci := 6) rfl (q0 := 0) rfl gC_Lex_72 ⟨rfl, by decide, by decide, by decide +kernel⟩ ⟨Nat.le_of_ble_eq_true rfl, Nat.le_of_ble_eq_true rfl⟩ ⟨show _ + da20 ≤ DC by omega, show _ + ea21 ≤ DS by omega⟩ (As := []) (n := 0) rfl hl.1 rfl (Nat.le_of_ble_eq_true rfl) dC_Lex_readToken_79 (fun Wc' ov H locs hPo hWn => ?_)
              obtain ⟨b24, rfl, rfl⟩ := hPo
              have hW := hWn (w_Lex dA o (mxs [0, 1, 2, 3] b24 b) u19.1 sX sY sN u19.2) rfl rfl
              generalize mxs [0, 1, 2, 3] b24 b = b at hW
              obtain ⟨hg25, hM⟩ := gd_some hM
              obtain ⟨rfl, rfl, rfl, rfl⟩ := sm_q hM
              exact x_retCz (pc := 82) C rfl (isB_n hg25) hW ⟨_, rfl, rfl⟩ (by omega) (by omega) dC_Lex_readToken_82
          · replace hM := it_f hc hM
            refine lv_aload_n (pc := 67) hx hb dC_Lex_readToken_67 rfl (lv_at hl 1 rfl) ?_
            obtain ⟨r26, u27, da28, ea29, db30, eb31, hr26, hM, hqda28, hpda28⟩ := ct_some hM
            refine x_callC (pc := 68) (n' := 29) C hW (kC_Lex_readName l D dA z o b N sL sX sY sN sT hr26) [0, 1, 2, 3, 4, 5, 6, 7, 8, 9, 10, 11, 12, 13, 14, 15, 16, 17, 18, 19, 20, 21, 22, 23, 24, 25, 26, 27, 28] rfl (by decide +kernel) rfl (ci := 6) rfl (q0 := 0) rfl gC_Lex_69 ⟨rfl, by decide, by decide, by decide +kernel⟩ ⟨Nat.le_of_ble_eq_true rfl, Nat.le_of_ble_eq_true rfl⟩ ⟨show _ + da28 ≤ DC by omega, show _ + ea29 ≤ DS by omega⟩ (As := []) (n := 0) rfl hl.1 rfl (Nat.le_of_ble_eq_true rfl) dC_Lex_readToken_68 (fun Wc' ov H locs hPo hWn => ?_)
            obtain ⟨b32, rfl, rfl⟩ := hPo
            have hW := hWn (w_Lex dA o (mxs [0, 1, 2, 3] b32 b) u27.1 sX sY u27.2.1 u27.2.2) rfl rfl
            generalize mxs [0, 1, 2, 3] b32 b = b at hW
            obtain ⟨hg33, hM⟩ := gd_some hM
            obtain ⟨rfl, rfl, rfl, rfl⟩ := sm_q hM
            exact x_retCz (pc := 71) C rfl (isB_n hg33) hW ⟨_, rfl, rfl⟩ (by omega) (by omega) dC_Lex_readToken_71
        · replace hM := it_f hc hM
          refine lv_aload_n (pc := 55) hx hb dC_Lex_readToken_55 rfl (lv_at hl 1 rfl) ?_
          obtain ⟨r34, u35, da36, ea37, db38, eb39, hr34, hM, hqda36, hpda36⟩ := ct_some hM
          refine x_callC (pc := 56) (n' := 29) C hW (kC_Lex_readNumber l D dA z o b N sL sX sY sN sT hr34) [0, 1, 2, 3, 4, 5, 6, 7, 8, 9, 10, 11, 12, 13, 14, 15, 16, 17, 18, 19, 20, 21, 22, 23, 24, 25, 26, 27, 28] rfl (by decide +kernel) rfl (ci := 6) rfl (q0 := 0) rfl gC_Lex_63 ⟨rfl, by decide, by decide, by decide +kernel⟩ ⟨Nat.le_of_ble_eq_true rfl, Nat.le_of_ble_eq_true rfl⟩ ⟨show _ + da36 ≤ DC by omega, show _ + ea37 ≤ DS by omega⟩ (As := []) (n := 0) rfl hl.1 rfl (Nat.le_of_ble_eq_true rfl) dC_Lex_readToken_56 (fun Wc' ov H locs hPo hWn => ?_)
          obtain ⟨b40, rfl, rfl⟩ := hPo
          have hW := hWn (w_Lex dA o (mxs [0, 1, 2, 3] b40 b) u35.1 sX sY sN u35.2) rfl rfl
          generalize mxs [0, 1, 2, 3] b40 b = b at hW
          obtain ⟨hg41, hM⟩ := gd_some hM
          obtain ⟨rfl, rfl, rfl, rfl⟩ := sm_q hM
          exact x_retCz (pc := 59) C rfl (isB_n hg41) hW ⟨_, rfl, rfl⟩ (by omega) (by omega) dC_Lex_readToken_59
      · replace hM := it_t hc hM
        refine lv_aload_n (pc := 42) hx hb dC_Lex_readToken_42 rfl (lv_at hl 1 rfl) ?_
        obtain ⟨r42, u43, hr42, hM⟩ := cl_some hM
        refine x_callC (pc := 43) (n' := 29) C hW (kC_Lex_skipRemark l D dA z o b N sL sX sY sN sT hr42) [0, 1, 2, 3, 4, 5, 6, 7, 8, 9, 10, 11, 12, 13, 14, 15, 16, 17, 18, 19, 20, 21, 22, 23, 24, 25, 26, 27, 28] rfl (by decide +kernel) rfl (ci := 6) rfl (q0 := 0) rfl gC_Lex_56 ⟨rfl, by decide, by decide, by decide +kernel⟩ ⟨Nat.le_of_ble_eq_true rfl, Nat.le_of_ble_eq_true rfl⟩ ⟨show _ + 0 ≤ DC by omega, show _ + 0 ≤ DS by omega⟩ (As := []) (n := 0) rfl hl.1 rfl (Nat.le_of_ble_eq_true rfl) dC_Lex_readToken_43 (fun Wc' ov H locs hPo hWn => ?_)
        obtain ⟨rfl, rfl⟩ := hPo
        have hW := hWn (w_Lex dA o b u43 sX sY sN sT) rfl rfl
        refine lv_iconst (pc := 46) (v := 1) hx hb dC_Lex_readToken_46 (by decide) ?_
        obtain ⟨rfl, rfl, rfl, rfl⟩ := sm_q hM
        exact x_retCz (pc := 47) C rfl rfl hW ⟨_, rfl, rfl⟩ (by omega) (by omega) dC_Lex_readToken_47
    · replace hM := it_t hc hM
      exact bC_Lex_readToken_24 N  C  _ _ _ _ _ _ _ _ _ hM (by omega) (by omega) _ _ _ hW _ (lv_sub hl [1] rfl)
theorem kC_Lex_readToken (l : Launch) (D : va_G) (dA : Nat → ClassId) (z : Nat → Nat) (o b : Nat → Nat) (N : Nat)  (sL : CS) (sX : CS) (sY : CS) (sN : CS) (sT : CS) {r : Int32} {u : CS × CS × CS × CS} {dc ds : Nat} (hM : C_Lex_readToken N  sL sX sY sN sT = some ((r, u), (dc, ds))) : KC l D dA z yC_Lex_readToken cC_Lex_readToken 2 (some .boolean) 5 173 dc ds (w_Lex dA o b sL sX sY sN sT) [.ref (o 80)] (fun Ws' ov => ∃ b' : Nat → Nat, Ws' = (w_Lex dA o b' u.1 sX u.2.1 u.2.2.1 u.2.2.2) ∧ ov = (some (.int r))) := x_enterC (by decide +kernel) (Nat.le_of_ble_eq_true rfl) (fun p e s m args below meth c A C _ hW ls hl => bC_Lex_readToken_0 N C  sL sX sY sN sT dc ds 0 0 hM (by omega) (by omega) b s.heap [] hW ls hl)
def C_Lex_readAll_77 (N : Nat)  (sL : CS) (sX : CS) (sY : CS) (sN : CS) (sT : CS) : Option ((Int32 × (CS × CS × CS × CS)) × (Nat × Nat)) :=
  ct (C_Tok_add  (0 : Int32) (0 : Int32) (0 : Int32) sT) (fun r1 u2 => some (((0 : Int32), (sL, sY, sN, u2)), (0, 0)))
set_option maxHeartbeats 4000000 in
set_option maxRecDepth 100000 in
theorem bC_Lex_readAll_77 (N : Nat)  {r : Int32} {u : CS × CS × CS × CS} {DC DS : Nat} (C : CxC R_Lex p s m args meth c cC_Lex_readAll 3 none D dA z A)  (sL : CS) (sX : CS) (sY : CS) (sN : CS) (sT : CS) (dc ds kc ks : Nat) (hM : C_Lex_readAll_77 N   sL sX sY sN sT = some ((r, u), (dc, ds))) (hdc : kc + dc ≤ DC) (hds : ks + ds ≤ DS) (b : Nat → Nat) (H : Heap) (locs : List Loc) (hW : WdC D A s (w_Lex dA o b sL sX sY sN sT) H locs) (ls : Array Slot) (hl : lv_has ls 3 [(0, .ref (o 80))]) : W p l e (rmC 6 194 DC DS) s m args below meth c H locs kc ks (MQ below (QC D A (fun Ws' ov => ∃ b' : Nat → Nat, Ws' = (w_Lex dA o b' u.1 sX u.2.1 u.2.2.1 u.2.2.2) ∧ ov = none)) args s DC DS A) (F0 m 77 ls []) := by
  have hx := C.1.1
  have hb := C.1.2.1
  have hown := C.1.2.2.2.2.1
  have hT := C.1.2.2.2.2.2.1
  unfold C_Lex_readAll_77 at hM
  refine lv_aload_n (pc := 77) hx hb dC_Lex_readAll_77 rfl (lv_at hl 0 rfl) ?_
  refine x_getC (pc := 78) C hW 0 rfl (ci := 6) rfl i_Lex 2 (by decide) qc_440 rfl rfl dC_Lex_readAll_78 ?_
  refine lv_iconst (pc := 81) (v := 0) hx hb dC_Lex_readAll_81 (by decide) ?_
  refine lv_iconst (pc := 82) (v := 0) hx hb dC_Lex_readAll_82 (by decide) ?_
  refine lv_iconst (pc := 83) (v := 0) hx hb dC_Lex_readAll_83 (by decide) ?_
  obtain ⟨r1, u2, da3, ea4, db5, eb6, hr1, hM, hqda3, hpda3⟩ := ct_some hM
  refine x_callC (pc := 84) (n' := 29) C hW (kC_Tok_add l D dA z o b  (0 : Int32) (0 : Int32) (0 : Int32) sT hr1) [25, 26, 27, 28, 0, 1, 2, 3, 4, 5, 6, 7, 8, 9, 10, 11, 12, 13, 14, 15, 16, 17, 18, 19, 20, 21, 22, 23, 24] rfl (by decide +kernel) rfl (ci := 3) rfl (q0 := 25) rfl gC_Lex_48 ⟨rfl, by decide, by decide, by decide +kernel⟩ ⟨Nat.le_of_ble_eq_true rfl, Nat.le_of_ble_eq_true rfl⟩ ⟨show _ + da3 ≤ DC by omega, show _ + ea4 ≤ DS by omega⟩ (As := [.int (0 : Int32), .int (0 : Int32), .int (0 : Int32)]) (n := 3) rfl hl.1 rfl (Nat.le_of_ble_eq_true rfl) dC_Lex_readAll_84 (fun Wc' ov H locs hPo hWn => ?_)
  obtain ⟨b7, rfl, rfl⟩ := hPo
  have hW := hWn (w_Lex dA o (mxs [2] b7 b) sL sX sY sN u2) rfl rfl
  generalize mxs [2] b7 b = b at hW
  obtain ⟨rfl, rfl, rfl, rfl⟩ := sm_q hM
  exact x_retCv (pc := 87) C rfl hW ⟨_, rfl, rfl⟩ (by omega) (by omega) dC_Lex_readAll_87
def C_Lex_readAll_63 (N : Nat) (x1 : Int32) (sL : CS) (sX : CS) (sY : CS) (sN : CS) (sT : CS) : Option ((Int32 × (CS × CS × CS × CS)) × (Nat × Nat)) :=
  (if x1 = 0 then ct (C_Tok_add  (1 : Int32) (0 : Int32) (0 : Int32) sT) (fun r1 u2 => C_Lex_readAll_77 N  sL sX sY sN u2) else C_Lex_readAll_77 N  sL sX sY sN sT)
set_option maxHeartbeats 4000000 in
set_option maxRecDepth 100000 in
theorem bC_Lex_readAll_63 (N : Nat)  {r : Int32} {u : CS × CS × CS × CS} {DC DS : Nat} (C : CxC R_Lex p s m args meth c cC_Lex_readAll 3 none D dA z A) (x1 : Int32) (sL : CS) (sX : CS) (sY : CS) (sN : CS) (sT : CS) (dc ds kc ks : Nat) (hM : C_Lex_readAll_63 N  x1 sL sX sY sN sT = some ((r, u), (dc, ds))) (hdc : kc + dc ≤ DC) (hds : ks + ds ≤ DS) (b : Nat → Nat) (H : Heap) (locs : List Loc) (hW : WdC D A s (w_Lex dA o b sL sX sY sN sT) H locs) (ls : Array Slot) (hl : lv_has ls 3 [(0, .ref (o 80)), (1, .int x1)]) : W p l e (rmC 6 194 DC DS) s m args below meth c H locs kc ks (MQ below (QC D A (fun Ws' ov => ∃ b' : Nat → Nat, Ws' = (w_Lex dA o b' u.1 sX u.2.1 u.2.2.1 u.2.2.2) ∧ ov = none)) args s DC DS A) (F0 m 63 ls []) := by
  have hx := C.1.1
  have hb := C.1.2.1
  have hown := C.1.2.2.2.2.1
  have hT := C.1.2.2.2.2.2.1
  unfold C_Lex_readAll_63 at hM
  refine lv_iload_n (pc := 63) hx hb dC_Lex_readAll_63 rfl (lv_at hl 1 rfl) ?_
  refine lv_if_ne (pc := 64) (tgt := 77) hx hb dC_Lex_readAll_64 (by decide) (fun hc => ?_) (fun hc => ?_)
  · replace hM := it_f hc hM
    exact bC_Lex_readAll_77 N  C  _ _ _ _ _ _ _ _ _ hM (by omega) (by omega) _ _ _ hW _ (lv_sub hl [0] rfl)
  · replace hM := it_t hc hM
    refine lv_aload_n (pc := 67) hx hb dC_Lex_readAll_67 rfl (lv_at hl 0 rfl) ?_
    refine x_getC (pc := 68) C hW 0 rfl (ci := 6) rfl i_Lex 2 (by decide) qc_440 rfl rfl dC_Lex_readAll_68 ?_
    refine lv_iconst (pc := 71) (v := 1) hx hb dC_Lex_readAll_71 (by decide) ?_
    refine lv_iconst (pc := 72) (v := 0) hx hb dC_Lex_readAll_72 (by decide) ?_
    refine lv_iconst (pc := 73) (v := 0) hx hb dC_Lex_readAll_73 (by decide) ?_
    obtain ⟨r1, u2, da3, ea4, db5, eb6, hr1, hM, hqda3, hpda3⟩ := ct_some hM
    refine x_callC (pc := 74) (n' := 29) C hW (kC_Tok_add l D dA z o b  (1 : Int32) (0 : Int32) (0 : Int32) sT hr1) [25, 26, 27, 28, 0, 1, 2, 3, 4, 5, 6, 7, 8, 9, 10, 11, 12, 13, 14, 15, 16, 17, 18, 19, 20, 21, 22, 23, 24] rfl (by decide +kernel) rfl (ci := 3) rfl (q0 := 25) rfl gC_Lex_48 ⟨rfl, by decide, by decide, by decide +kernel⟩ ⟨Nat.le_of_ble_eq_true rfl, Nat.le_of_ble_eq_true rfl⟩ ⟨show _ + da3 ≤ DC by omega, show _ + ea4 ≤ DS by omega⟩ (As := [.int (1 : Int32), .int (0 : Int32), .int (0 : Int32)]) (n := 3) rfl hl.1 rfl (Nat.le_of_ble_eq_true rfl) dC_Lex_readAll_74 (fun Wc' ov H locs hPo hWn => ?_)
    obtain ⟨b7, rfl, rfl⟩ := hPo
    have hW := hWn (w_Lex dA o (mxs [2] b7 b) sL sX sY sN u2) rfl rfl
    generalize mxs [2] b7 b = b at hW
    exact bC_Lex_readAll_77 N  C  _ _ _ _ _ _ _ _ _ hM (by omega) (by omega) _ _ _ hW _ (lv_sub hl [0] rfl)
def C_Lex_readAll_30 (N : Nat)  : Nat → Int32 → Int32 → CS → CS → CS → CS → CS → Option ((Int32 × (CS × CS × CS × CS)) × (Nat × Nat))
  | 0 => fun _ _ _ _ _ _ _ => none
  | n + 1 => fun x1 x2 sL sX sY sN sT => (if x2 ≤ 0 then C_Lex_readAll_63 N  x1 sL sX sY sN sT else (if x1 = 0 then C_Lex_readAll_63 N  x1 sL sX sY sN sT else (if (sX.1 0) ≤ (sL.1 0) then C_Lex_readAll_63 N  x1 sL sX sY sN sT else ct (C_Lex_readToken N sL sX sY sN sT) (fun r1 u2 => (C_Lex_readAll_30 N  n) r1 (x2 + (-1 : Int32)) u2.1 sX u2.2.1 u2.2.2.1 u2.2.2.2))))
set_option maxHeartbeats 4000000 in
set_option maxRecDepth 100000 in
theorem bC_Lex_readAll_30 (N : Nat)  {r : Int32} {u : CS × CS × CS × CS} {DC DS : Nat} (C : CxC R_Lex p s m args meth c cC_Lex_readAll 3 none D dA z A) : ∀ (n : Nat) (x1 : Int32) (x2 : Int32) (sL : CS) (sX : CS) (sY : CS) (sN : CS) (sT : CS) (dc ds kc ks : Nat) , C_Lex_readAll_30 N  n x1 x2 sL sX sY sN sT = some ((r, u), (dc, ds)) → ∀ (hdc : kc + dc ≤ DC) (hds : ks + ds ≤ DS) (b : Nat → Nat) (H : Heap) (locs : List Loc) (hW : WdC D A s (w_Lex dA o b sL sX sY sN sT) H locs) (ls : Array Slot) (hl : lv_has ls 3 [(0, .ref (o 80)), (1, .int x1), (2, .int x2)]), W p l e (rmC 6 194 DC DS) s m args below meth c H locs kc ks (MQ below (QC D A (fun Ws' ov => ∃ b' : Nat → Nat, Ws' = (w_Lex dA o b' u.1 sX u.2.1 u.2.2.1 u.2.2.2) ∧ ov = none)) args s DC DS A) (F0 m 30 ls []) := by
  have hx := C.1.1
  have hb := C.1.2.1
  have hown := C.1.2.2.2.2.1
  have hT := C.1.2.2.2.2.2.1
  intro n
  induction n with
  | zero => intro x1 x2 sL sX sY sN sT dc ds kc ks hM; cases hM
  | succ n hrec30 =>
    intro x1 x2 sL sX sY sN sT dc ds kc ks hM hdc hds b H locs hW ls hl
    rw [C_Lex_readAll_30] at hM
    refine lv_iload_n (pc := 30) hx hb dC_Lex_readAll_30 rfl (lv_at hl 2 rfl) ?_
    refine lv_if_le (pc := 31) (tgt := 63) hx hb dC_Lex_readAll_31 (by decide) (fun hc => ?_) (fun hc => ?_)
    · replace hM := it_t hc hM
      exact bC_Lex_readAll_63 N  C  _ _ _ _ _ _ _ _ _ _ hM (by omega) (by omega) _ _ _ hW _ (lv_sub hl [0, 1] rfl)
    · replace hM := it_f hc hM
      refine lv_iload_n (pc := 34) hx hb dC_Lex_readAll_34 rfl (lv_at hl 1 rfl) ?_
      refine lv_if_eq (pc := 35) (tgt := 63) hx hb dC_Lex_readAll_35 (by decide) (fun hc => ?_) (fun hc => ?_)
      · replace hM := it_t hc hM
        exact bC_Lex_readAll_63 N  C  _ _ _ _ _ _ _ _ _ _ hM (by omega) (by omega) _ _ _ hW _ (lv_sub hl [0, 1] rfl)
      · replace hM := it_f hc hM
        refine lv_aload_n (pc := 38) hx hb dC_Lex_readAll_38 rfl (lv_at hl 0 rfl) ?_
        refine x_getC (pc := 39) C hW 0 rfl (ci := 6) rfl i_Lex 4 (by decide) qc_442 rfl rfl dC_Lex_readAll_39 ?_
        refine lv_aload_n (pc := 42) hx hb dC_Lex_readAll_42 rfl (lv_at hl 0 rfl) ?_
        refine x_getC (pc := 43) C hW 0 rfl (ci := 6) rfl i_Lex 0 (by decide) qc_438 rfl rfl dC_Lex_readAll_43 ?_
        refine x_getC (pc := 46) C hW 1 rfl (ci := 1) rfl i_Row 0 (by decide) qc_55 rfl rfl dC_Lex_readAll_46 ?_
        refine lv_icmp_ge (pc := 49) (tgt := 63) hx hb dC_Lex_readAll_49 (by decide) (fun hc => ?_) (fun hc => ?_)
        · replace hM := it_t hc hM
          exact bC_Lex_readAll_63 N  C  _ _ _ _ _ _ _ _ _ _ hM (by omega) (by omega) _ _ _ hW _ (lv_sub hl [0, 1] rfl)
        · replace hM := it_f hc hM
          refine lv_aload_n (pc := 52) hx hb dC_Lex_readAll_52 rfl (lv_at hl 0 rfl) ?_
          obtain ⟨r1, u2, da3, ea4, db5, eb6, hr1, hM, hqda3, hpda3⟩ := ct_some hM
          refine x_callC (pc := 53) (n' := 29) C hW (kC_Lex_readToken l D dA z o b N sL sX sY sN sT hr1) [0, 1, 2, 3, 4, 5, 6, 7, 8, 9, 10, 11, 12, 13, 14, 15, 16, 17, 18, 19, 20, 21, 22, 23, 24, 25, 26, 27, 28] rfl (by decide +kernel) rfl (ci := 6) rfl (q0 := 0) rfl gC_Lex_44 ⟨rfl, by decide, by decide, by decide +kernel⟩ ⟨Nat.le_of_ble_eq_true rfl, Nat.le_of_ble_eq_true rfl⟩ ⟨show _ + da3 ≤ DC by omega, show _ + ea4 ≤ DS by omega⟩ (As := []) (n := 0) rfl hl.1 rfl (Nat.le_of_ble_eq_true rfl) dC_Lex_readAll_53 (fun Wc' ov H locs hPo hWn => ?_)
          obtain ⟨b7, rfl, rfl⟩ := hPo
          have hW := hWn (w_Lex dA o (mxs [0, 1, 2, 3] b7 b) u2.1 sX u2.2.1 u2.2.2.1 u2.2.2.2) rfl rfl
          generalize mxs [0, 1, 2, 3] b7 b = b at hW
          refine lv_istore_n (pc := 56) (lv' := [(1, .int r1), (0, .ref (o 80)), (2, .int x2)]) hx hb dC_Lex_readAll_56 rfl hl (by decide) rfl (fun ls hl => ?_)
          refine lv_iinc (pc := 57) (v := x2 + (-1 : Int32)) (lv' := [(2, .int (x2 + (-1 : Int32))), (1, .int r1), (0, .ref (o 80))]) hx hb dC_Lex_readAll_57 hl (k := 2) rfl rfl (by decide) rfl (fun ls hl => ?_)
          refine lv_goto (pc := 60) (tgt := 30) hx hb dC_Lex_readAll_60 (by decide) ?_
          exact hrec30 _ _ _ _ _ _ _ _ _ _ _ hM (by omega) (by omega) _ _ _ hW _ (lv_sub hl [2, 1, 0] rfl)
def C_Lex_readAll (N : Nat)  (sL : CS) (sX : CS) (sY : CS) (sN : CS) (sT : CS) : Option ((Int32 × (CS × CS × CS × CS)) × (Nat × Nat)) :=
  cl (C_Tok_empty  sT) (fun r1 u2 => cl (C_Row_cut  (0 : Int32) sY) (fun r3 u4 => bnd (cF sL 0 (0 : Int32)) (fun sL5 => C_Lex_readAll_30 N  N (1 : Int32) (sX.1 0) sL5 sX u4 sN u2)))
set_option maxHeartbeats 4000000 in
set_option maxRecDepth 100000 in
theorem bC_Lex_readAll_0 (N : Nat)  {r : Int32} {u : CS × CS × CS × CS} {DC DS : Nat} (C : CxC R_Lex p s m args meth c cC_Lex_readAll 3 none D dA z A)  (sL : CS) (sX : CS) (sY : CS) (sN : CS) (sT : CS) (dc ds kc ks : Nat) (hM : C_Lex_readAll N   sL sX sY sN sT = some ((r, u), (dc, ds))) (hdc : kc + dc ≤ DC) (hds : ks + ds ≤ DS) (b : Nat → Nat) (H : Heap) (locs : List Loc) (hW : WdC D A s (w_Lex dA o b sL sX sY sN sT) H locs) (ls : Array Slot) (hl : lv_has ls 3 [(0, .ref (o 80))]) : W p l e (rmC 6 194 DC DS) s m args below meth c H locs kc ks (MQ below (QC D A (fun Ws' ov => ∃ b' : Nat → Nat, Ws' = (w_Lex dA o b' u.1 sX u.2.1 u.2.2.1 u.2.2.2) ∧ ov = none)) args s DC DS A) (F0 m 0 ls []) := by
  have hx := C.1.1
  have hb := C.1.2.1
  have hown := C.1.2.2.2.2.1
  have hT := C.1.2.2.2.2.2.1
  unfold C_Lex_readAll at hM
  refine lv_aload_n (pc := 0) hx hb dC_Lex_readAll_0 rfl (lv_at hl 0 rfl) ?_
  refine x_getC (pc := 1) C hW 0 rfl (ci := 6) rfl i_Lex 2 (by decide) qc_440 rfl rfl dC_Lex_readAll_1 ?_
  obtain ⟨r1, u2, hr1, hM⟩ := cl_some hM
  refine x_callC (pc := 4) (n' := 29) C hW (kC_Tok_empty l D dA z o b  sT hr1) [25, 26, 27, 28, 0, 1, 2, 3, 4, 5, 6, 7, 8, 9, 10, 11, 12, 13, 14, 15, 16, 17, 18, 19, 20, 21, 22, 23, 24] rfl (by decide +kernel) rfl (ci := 3) rfl (q0 := 25) rfl gC_Lex_30 ⟨rfl, by decide, by decide, by decide +kernel⟩ ⟨Nat.le_of_ble_eq_true rfl, Nat.le_of_ble_eq_true rfl⟩ ⟨show _ + 0 ≤ DC by omega, show _ + 0 ≤ DS by omega⟩ (As := []) (n := 0) rfl hl.1 rfl (Nat.le_of_ble_eq_true rfl) dC_Lex_readAll_4 (fun Wc' ov H locs hPo hWn => ?_)
  obtain ⟨rfl, rfl⟩ := hPo
  have hW := hWn (w_Lex dA o b sL sX sY sN u2) rfl rfl
  refine lv_aload_n (pc := 7) hx hb dC_Lex_readAll_7 rfl (lv_at hl 0 rfl) ?_
  refine x_getC (pc := 8) C hW 0 rfl (ci := 6) rfl i_Lex 3 (by decide) qc_441 rfl rfl dC_Lex_readAll_8 ?_
  refine lv_iconst (pc := 11) (v := 0) hx hb dC_Lex_readAll_11 (by decide) ?_
  obtain ⟨r3, u4, hr3, hM⟩ := cl_some hM
  refine x_callC (pc := 12) (n' := 29) C hW (kC_Row_cut l D dA z (fun _ => o 48) (fun _ => b 48)  (0 : Int32) sY hr3) [3, 4, 0, 1, 2, 5, 6, 7, 8, 9, 10, 11, 12, 13, 14, 15, 16, 17, 18, 19, 20, 21, 22, 23, 24, 25, 26, 27, 28] rfl (by decide +kernel) rfl (ci := 1) rfl (q0 := 3) rfl gC_Lex_35 ⟨rfl, by decide, by decide, by decide +kernel⟩ ⟨Nat.le_of_ble_eq_true rfl, Nat.le_of_ble_eq_true rfl⟩ ⟨show _ + 0 ≤ DC by omega, show _ + 0 ≤ DS by omega⟩ (As := [.int (0 : Int32)]) (n := 1) rfl hl.1 rfl (Nat.le_of_ble_eq_true rfl) dC_Lex_readAll_12 (fun Wc' ov H locs hPo hWn => ?_)
  obtain ⟨rfl, rfl⟩ := hPo
  have hW := hWn (w_Lex dA o b sL sX u4 sN u2) rfl rfl
  refine lv_aload_n (pc := 15) hx hb dC_Lex_readAll_15 rfl (lv_at hl 0 rfl) ?_
  refine lv_iconst (pc := 16) (v := 0) hx hb dC_Lex_readAll_16 (by decide) ?_
  refine x_putC (pc := 17) (ty := .int) (Ws' := (w_Lex dA o b (cF sL 0 (0 : Int32)) sX u4 sN u2)) C hW 0 rfl (ci := 6) rfl i_Lex tok_Lex n_Lex 4 (by decide) qc_442 rfl rfl (by decide +kernel) rfl rfl (Nat.le_of_ble_eq_true rfl) rfl dC_Lex_readAll_17 (fun H locs hW => ?_)
  obtain ⟨sL5, esL5, hM⟩ := bnd_some hM
  rw [← esL5] at hW
  refine lv_iconst (pc := 20) (v := 1) hx hb dC_Lex_readAll_20 (by decide) ?_
  refine lv_istore_n (pc := 21) (lv' := [(1, .int (1 : Int32)), (0, .ref (o 80))]) hx hb dC_Lex_readAll_21 rfl hl (by decide) rfl (fun ls hl => ?_)
  refine lv_aload_n (pc := 22) hx hb dC_Lex_readAll_22 rfl (lv_at hl 1 rfl) ?_
  refine x_getC (pc := 23) C hW 0 rfl (ci := 6) rfl i_Lex 0 (by decide) qc_438 rfl rfl dC_Lex_readAll_23 ?_
  refine x_getC (pc := 26) C hW 1 rfl (ci := 1) rfl i_Row 0 (by decide) qc_55 rfl rfl dC_Lex_readAll_26 ?_
  refine lv_istore_n (pc := 29) (lv' := [(2, .int (sX.1 0)), (1, .int (1 : Int32)), (0, .ref (o 80))]) hx hb dC_Lex_readAll_29 rfl hl (by decide) rfl (fun ls hl => ?_)
  exact bC_Lex_readAll_30 N  C  N _ _ _ _ _ _ _ _ _ _ _ hM (by omega) (by omega) _ _ _ hW _ (lv_sub hl [2, 1, 0] rfl)
theorem kC_Lex_readAll (l : Launch) (D : va_G) (dA : Nat → ClassId) (z : Nat → Nat) (o b : Nat → Nat) (N : Nat)  (sL : CS) (sX : CS) (sY : CS) (sN : CS) (sT : CS) {r : Int32} {u : CS × CS × CS × CS} {dc ds : Nat} (hM : C_Lex_readAll N  sL sX sY sN sT = some ((r, u), (dc, ds))) : KC l D dA z yC_Lex_readAll cC_Lex_readAll 3 none 6 194 dc ds (w_Lex dA o b sL sX sY sN sT) [.ref (o 80)] (fun Ws' ov => ∃ b' : Nat → Nat, Ws' = (w_Lex dA o b' u.1 sX u.2.1 u.2.2.1 u.2.2.2) ∧ ov = none) := x_enterC (by decide +kernel) (Nat.le_of_ble_eq_true rfl) (fun p e s m args below meth c A C _ hW ls hl => bC_Lex_readAll_0 N C  sL sX sY sN sT dc ds 0 0 hM (by omega) (by omega) b s.heap [] hW ls hl)
end
