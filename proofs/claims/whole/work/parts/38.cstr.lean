theorem qc_9 : (Jvm.Cond.initialized "java/lang/String") ∈ lw_gd := uc_0 (List.mem_of_getElem? (i := 9) (by decide +kernel)) (by decide +kernel)
theorem qc_10 : (Jvm.Cond.initialized "java/lang/StringLatin1") ∈ lw_gd := uc_0 (List.mem_of_getElem? (i := 10) (by decide +kernel)) (by decide +kernel)
theorem qc_108 : (Jvm.Cond.instanceMethod ({ cls := "java/lang/String", name := "length", desc := "()I" } : Jvm.MethodName)) ∈ lw_gd := uc_0 (List.mem_of_getElem? (i := 108) (by decide +kernel)) (by decide +kernel)
theorem qc_109 : (Jvm.Cond.selects "java/lang/String" ({ cls := "java/lang/String", name := "length", desc := "()I" } : Jvm.MethodName) ({ cls := "java/lang/String", name := "length", desc := "()I" } : Jvm.MethodName)) ∈ lw_gd := uc_0 (List.mem_of_getElem? (i := 109) (by decide +kernel)) (by decide +kernel)
theorem qc_110 : (Jvm.Cond.code ({ cls := "java/lang/String", name := "length", desc := "()I" } : Jvm.MethodName) prog_29_method_54_code (1 : Nat) (Option.some Jvm.ClassFile.FieldType.int)) ∈ lw_gd := uc_0 (List.mem_of_getElem? (i := 110) (by decide +kernel)) (by decide +kernel)
theorem qc_111 : (Jvm.Cond.methodLink "java/lang/String" (335 : Nat) ({ cls := "java/lang/String", name := "coder", desc := "()B" } : Jvm.MethodName)) ∈ lw_gd := uc_0 (List.mem_of_getElem? (i := 111) (by decide +kernel)) (by decide +kernel)
theorem qc_112 : (Jvm.Cond.instanceMethod ({ cls := "java/lang/String", name := "coder", desc := "()B" } : Jvm.MethodName)) ∈ lw_gd := uc_0 (List.mem_of_getElem? (i := 112) (by decide +kernel)) (by decide +kernel)
theorem qc_113 : (Jvm.Cond.selects "java/lang/String" ({ cls := "java/lang/String", name := "coder", desc := "()B" } : Jvm.MethodName) ({ cls := "java/lang/String", name := "coder", desc := "()B" } : Jvm.MethodName)) ∈ lw_gd := uc_0 (List.mem_of_getElem? (i := 113) (by decide +kernel)) (by decide +kernel)
theorem qc_114 : (Jvm.Cond.code ({ cls := "java/lang/String", name := "coder", desc := "()B" } : Jvm.MethodName) prog_29_method_152_code (1 : Nat) (Option.some Jvm.ClassFile.FieldType.byte)) ∈ lw_gd := uc_0 (List.mem_of_getElem? (i := 114) (by decide +kernel)) (by decide +kernel)
theorem qc_115 : (Jvm.Cond.fieldLink "java/lang/String" (38 : Nat) "java/lang/String" "COMPACT_STRINGS" "Z") ∈ lw_gd := uc_0 (List.mem_of_getElem? (i := 115) (by decide +kernel)) (by decide +kernel)
theorem qc_121 : (Jvm.Cond.methodLink "java/lang/String" (492 : Nat) ({ cls := "java/lang/String", name := "isLatin1", desc := "()Z" } : Jvm.MethodName)) ∈ lw_gd := uc_0 (List.mem_of_getElem? (i := 121) (by decide +kernel)) (by decide +kernel)
theorem qc_122 : (Jvm.Cond.instanceMethod ({ cls := "java/lang/String", name := "isLatin1", desc := "()Z" } : Jvm.MethodName)) ∈ lw_gd := uc_0 (List.mem_of_getElem? (i := 122) (by decide +kernel)) (by decide +kernel)
theorem qc_123 : (Jvm.Cond.selects "java/lang/String" ({ cls := "java/lang/String", name := "isLatin1", desc := "()Z" } : Jvm.MethodName) ({ cls := "java/lang/String", name := "isLatin1", desc := "()Z" } : Jvm.MethodName)) ∈ lw_gd := uc_0 (List.mem_of_getElem? (i := 123) (by decide +kernel)) (by decide +kernel)
theorem qc_124 : (Jvm.Cond.code ({ cls := "java/lang/String", name := "isLatin1", desc := "()Z" } : Jvm.MethodName) prog_29_method_154_code (1 : Nat) (Option.some Jvm.ClassFile.FieldType.boolean)) ∈ lw_gd := uc_0 (List.mem_of_getElem? (i := 124) (by decide +kernel)) (by decide +kernel)
theorem qc_125 : (Jvm.Cond.methodLink "java/lang/String" (495 : Nat) ({ cls := "java/lang/StringLatin1", name := "charAt", desc := "([BI)C" } : Jvm.MethodName)) ∈ lw_gd := uc_0 (List.mem_of_getElem? (i := 125) (by decide +kernel)) (by decide +kernel)
theorem qc_126 : (Jvm.Cond.static ({ cls := "java/lang/StringLatin1", name := "charAt", desc := "([BI)C" } : Jvm.MethodName)) ∈ lw_gd := uc_0 (List.mem_of_getElem? (i := 126) (by decide +kernel)) (by decide +kernel)
theorem qc_127 : (Jvm.Cond.code ({ cls := "java/lang/StringLatin1", name := "charAt", desc := "([BI)C" } : Jvm.MethodName) prog_31_method_2_code (2 : Nat) (Option.some Jvm.ClassFile.FieldType.char)) ∈ lw_gd := uc_0 (List.mem_of_getElem? (i := 127) (by decide +kernel)) (by decide +kernel)
theorem qc_128 : (Jvm.Cond.methodLink "java/lang/StringLatin1" (9 : Nat) ({ cls := "java/lang/String", name := "checkIndex", desc := "(II)V" } : Jvm.MethodName)) ∈ lw_gd := uc_0 (List.mem_of_getElem? (i := 128) (by decide +kernel)) (by decide +kernel)
theorem qc_129 : (Jvm.Cond.static ({ cls := "java/lang/String", name := "checkIndex", desc := "(II)V" } : Jvm.MethodName)) ∈ lw_gd := uc_0 (List.mem_of_getElem? (i := 129) (by decide +kernel)) (by decide +kernel)
theorem qc_130 : (Jvm.Cond.code ({ cls := "java/lang/String", name := "checkIndex", desc := "(II)V" } : Jvm.MethodName) prog_29_method_155_code (2 : Nat) (Option.none : Option Jvm.ClassFile.FieldType)) ∈ lw_gd := uc_0 (List.mem_of_getElem? (i := 130) (by decide +kernel)) (by decide +kernel)
theorem qc_882 : (Jvm.Cond.fieldLink "java/lang/String" (9 : Nat) "java/lang/String" "value" "[B") ∈ lw_gd := uc_3 (List.mem_of_getElem? (i := 162) (by decide +kernel)) (by decide +kernel)
theorem qc_883 : (Jvm.Cond.fieldLink "java/lang/String" (15 : Nat) "java/lang/String" "coder" "B") ∈ lw_gd := uc_3 (List.mem_of_getElem? (i := 163) (by decide +kernel)) (by decide +kernel)
theorem qc_1270 : (Jvm.Cond.methodLink "LineAssembler$Fields" (11 : Nat) ({ cls := "java/lang/String", name := "indexOf", desc := "(I)I" } : Jvm.MethodName)) ∈ lw_gd := uc_5 (List.mem_of_getElem? (i := 70) (by decide +kernel)) (by decide +kernel)
theorem qc_1271 : (Jvm.Cond.instanceMethod ({ cls := "java/lang/String", name := "indexOf", desc := "(I)I" } : Jvm.MethodName)) ∈ lw_gd := uc_5 (List.mem_of_getElem? (i := 71) (by decide +kernel)) (by decide +kernel)
theorem qc_1272 : (Jvm.Cond.selects "java/lang/String" ({ cls := "java/lang/String", name := "indexOf", desc := "(I)I" } : Jvm.MethodName) ({ cls := "java/lang/String", name := "indexOf", desc := "(I)I" } : Jvm.MethodName)) ∈ lw_gd := uc_5 (List.mem_of_getElem? (i := 72) (by decide +kernel)) (by decide +kernel)
theorem qc_1273 : (Jvm.Cond.code ({ cls := "java/lang/String", name := "indexOf", desc := "(I)I" } : Jvm.MethodName) prog_29_method_79_code (2 : Nat) (Option.some Jvm.ClassFile.FieldType.int)) ∈ lw_gd := uc_5 (List.mem_of_getElem? (i := 73) (by decide +kernel)) (by decide +kernel)
theorem qc_1274 : (Jvm.Cond.methodLink "java/lang/String" (633 : Nat) ({ cls := "java/lang/String", name := "indexOf", desc := "(II)I" } : Jvm.MethodName)) ∈ lw_gd := uc_5 (List.mem_of_getElem? (i := 74) (by decide +kernel)) (by decide +kernel)
theorem qc_1275 : (Jvm.Cond.instanceMethod ({ cls := "java/lang/String", name := "indexOf", desc := "(II)I" } : Jvm.MethodName)) ∈ lw_gd := uc_5 (List.mem_of_getElem? (i := 75) (by decide +kernel)) (by decide +kernel)
theorem qc_1276 : (Jvm.Cond.selects "java/lang/String" ({ cls := "java/lang/String", name := "indexOf", desc := "(II)I" } : Jvm.MethodName) ({ cls := "java/lang/String", name := "indexOf", desc := "(II)I" } : Jvm.MethodName)) ∈ lw_gd := uc_5 (List.mem_of_getElem? (i := 76) (by decide +kernel)) (by decide +kernel)
theorem qc_1277 : (Jvm.Cond.code ({ cls := "java/lang/String", name := "indexOf", desc := "(II)I" } : Jvm.MethodName) prog_29_method_80_code (3 : Nat) (Option.some Jvm.ClassFile.FieldType.int)) ∈ lw_gd := uc_5 (List.mem_of_getElem? (i := 77) (by decide +kernel)) (by decide +kernel)
theorem qc_1278 : (Jvm.Cond.methodLink "java/lang/String" (505 : Nat) ({ cls := "java/lang/String", name := "length", desc := "()I" } : Jvm.MethodName)) ∈ lw_gd := uc_5 (List.mem_of_getElem? (i := 78) (by decide +kernel)) (by decide +kernel)
theorem qc_1279 : (Jvm.Cond.methodLink "java/lang/String" (637 : Nat) ({ cls := "java/lang/StringLatin1", name := "indexOf", desc := "([BIII)I" } : Jvm.MethodName)) ∈ lw_gd := uc_5 (List.mem_of_getElem? (i := 79) (by decide +kernel)) (by decide +kernel)
theorem qc_1280 : (Jvm.Cond.static ({ cls := "java/lang/StringLatin1", name := "indexOf", desc := "([BIII)I" } : Jvm.MethodName)) ∈ lw_gd := uc_5 (List.mem_of_getElem? (i := 80) (by decide +kernel)) (by decide +kernel)
theorem qc_1281 : (Jvm.Cond.code ({ cls := "java/lang/StringLatin1", name := "indexOf", desc := "([BIII)I" } : Jvm.MethodName) prog_31_method_22_code (4 : Nat) (Option.some Jvm.ClassFile.FieldType.int)) ∈ lw_gd := uc_5 (List.mem_of_getElem? (i := 81) (by decide +kernel)) (by decide +kernel)
theorem qc_1282 : (Jvm.Cond.methodLink "java/lang/StringLatin1" (88 : Nat) ({ cls := "java/lang/StringLatin1", name := "canEncode", desc := "(I)Z" } : Jvm.MethodName)) ∈ lw_gd := uc_5 (List.mem_of_getElem? (i := 82) (by decide +kernel)) (by decide +kernel)
theorem qc_1283 : (Jvm.Cond.static ({ cls := "java/lang/StringLatin1", name := "canEncode", desc := "(I)Z" } : Jvm.MethodName)) ∈ lw_gd := uc_5 (List.mem_of_getElem? (i := 83) (by decide +kernel)) (by decide +kernel)
theorem qc_1284 : (Jvm.Cond.code ({ cls := "java/lang/StringLatin1", name := "canEncode", desc := "(I)Z" } : Jvm.MethodName) prog_31_method_4_code (1 : Nat) (Option.some Jvm.ClassFile.FieldType.boolean)) ∈ lw_gd := uc_5 (List.mem_of_getElem? (i := 84) (by decide +kernel)) (by decide +kernel)
theorem qc_1285 : (Jvm.Cond.methodLink "java/lang/StringLatin1" (92 : Nat) ({ cls := "java/lang/Math", name := "max", desc := "(II)I" } : Jvm.MethodName)) ∈ lw_gd := uc_5 (List.mem_of_getElem? (i := 85) (by decide +kernel)) (by decide +kernel)
theorem qc_1286 : (Jvm.Cond.methodLink "java/lang/StringLatin1" (38 : Nat) ({ cls := "java/lang/Math", name := "min", desc := "(II)I" } : Jvm.MethodName)) ∈ lw_gd := uc_5 (List.mem_of_getElem? (i := 86) (by decide +kernel)) (by decide +kernel)
theorem qc_1287 : (Jvm.Cond.methodLink "java/lang/StringLatin1" (95 : Nat) ({ cls := "java/lang/StringLatin1", name := "indexOfChar", desc := "([BIII)I" } : Jvm.MethodName)) ∈ lw_gd := uc_5 (List.mem_of_getElem? (i := 87) (by decide +kernel)) (by decide +kernel)
theorem qc_1288 : (Jvm.Cond.static ({ cls := "java/lang/StringLatin1", name := "indexOfChar", desc := "([BIII)I" } : Jvm.MethodName)) ∈ lw_gd := uc_5 (List.mem_of_getElem? (i := 88) (by decide +kernel)) (by decide +kernel)
theorem qc_1289 : (Jvm.Cond.code ({ cls := "java/lang/StringLatin1", name := "indexOfChar", desc := "([BIII)I" } : Jvm.MethodName) prog_31_method_23_code (6 : Nat) (Option.some Jvm.ClassFile.FieldType.int)) ∈ lw_gd := uc_5 (List.mem_of_getElem? (i := 89) (by decide +kernel)) (by decide +kernel)
theorem qc_2195 : (Jvm.Cond.fieldLink "LineAssembler$Op" (413 : Nat) "LineAssembler$Op" "role" "I") ∈ lw_gd := uc_9 (List.mem_of_getElem? (i := 35) (by decide +kernel)) (by decide +kernel)
theorem qc_2196 : (Jvm.Cond.fieldLink "LineAssembler$Op" (420 : Nat) "LineAssembler$Op" "word" "I") ∈ lw_gd := uc_9 (List.mem_of_getElem? (i := 36) (by decide +kernel)) (by decide +kernel)
abbrev cC_Str_coder : ByteArray := prog_29_method_152_code
def yC_Str_coder : MethodName := ⟨R_Str, "coder", "()B"⟩
theorem dC_Str_coder_0 : decode cC_Str_coder 0 = .ok (.getstatic 38, 3) := by decide +kernel
theorem dC_Str_coder_3 : decode cC_Str_coder 3 = .ok (.ifCond .eq (10), 3) := by decide +kernel
theorem dC_Str_coder_6 : decode cC_Str_coder 6 = .ok (.aload_n 0, 1) := by decide +kernel
theorem dC_Str_coder_7 : decode cC_Str_coder 7 = .ok (.getfield 15, 3) := by decide +kernel
theorem dC_Str_coder_10 : decode cC_Str_coder 10 = .ok (.goto (4), 3) := by decide +kernel
theorem dC_Str_coder_13 : decode cC_Str_coder 13 = .ok (.iconst (1), 1) := by decide +kernel
theorem dC_Str_coder_14 : decode cC_Str_coder 14 = .ok (.ireturn, 1) := by decide +kernel
abbrev cC_Str_isLatin1 : ByteArray := prog_29_method_154_code
def yC_Str_isLatin1 : MethodName := ⟨R_Str, "isLatin1", "()Z"⟩
theorem dC_Str_isLatin1_0 : decode cC_Str_isLatin1 0 = .ok (.getstatic 38, 3) := by decide +kernel
theorem dC_Str_isLatin1_3 : decode cC_Str_isLatin1 3 = .ok (.ifCond .eq (14), 3) := by decide +kernel
theorem dC_Str_isLatin1_6 : decode cC_Str_isLatin1 6 = .ok (.aload_n 0, 1) := by decide +kernel
theorem dC_Str_isLatin1_7 : decode cC_Str_isLatin1 7 = .ok (.getfield 15, 3) := by decide +kernel
theorem dC_Str_isLatin1_10 : decode cC_Str_isLatin1 10 = .ok (.ifCond .ne (7), 3) := by decide +kernel
theorem dC_Str_isLatin1_13 : decode cC_Str_isLatin1 13 = .ok (.iconst (1), 1) := by decide +kernel
theorem dC_Str_isLatin1_14 : decode cC_Str_isLatin1 14 = .ok (.goto (4), 3) := by decide +kernel
theorem dC_Str_isLatin1_17 : decode cC_Str_isLatin1 17 = .ok (.iconst (0), 1) := by decide +kernel
theorem dC_Str_isLatin1_18 : decode cC_Str_isLatin1 18 = .ok (.ireturn, 1) := by decide +kernel
abbrev cC_Str_length : ByteArray := prog_29_method_54_code
def yC_Str_length : MethodName := ⟨R_Str, "length", "()I"⟩
theorem dC_Str_length_0 : decode cC_Str_length 0 = .ok (.aload_n 0, 1) := by decide +kernel
theorem dC_Str_length_1 : decode cC_Str_length 1 = .ok (.getfield 9, 3) := by decide +kernel
theorem dC_Str_length_4 : decode cC_Str_length 4 = .ok (.arraylength, 1) := by decide +kernel
theorem dC_Str_length_5 : decode cC_Str_length 5 = .ok (.aload_n 0, 1) := by decide +kernel
theorem dC_Str_length_6 : decode cC_Str_length 6 = .ok (.invokevirtual 335, 3) := by decide +kernel
theorem dC_Str_length_9 : decode cC_Str_length 9 = .ok (.ishr, 1) := by decide +kernel
theorem dC_Str_length_10 : decode cC_Str_length 10 = .ok (.ireturn, 1) := by decide +kernel
abbrev cC_Sl1_charAt : ByteArray := prog_31_method_2_code
def yC_Sl1_charAt : MethodName := ⟨"java/lang/StringLatin1", "charAt", "([BI)C"⟩
theorem dC_Sl1_charAt_0 : decode cC_Sl1_charAt 0 = .ok (.iload_n 1, 1) := by decide +kernel
theorem dC_Sl1_charAt_1 : decode cC_Sl1_charAt 1 = .ok (.aload_n 0, 1) := by decide +kernel
theorem dC_Sl1_charAt_2 : decode cC_Sl1_charAt 2 = .ok (.arraylength, 1) := by decide +kernel
theorem dC_Sl1_charAt_3 : decode cC_Sl1_charAt 3 = .ok (.invokestatic 9, 3) := by decide +kernel
theorem dC_Sl1_charAt_6 : decode cC_Sl1_charAt 6 = .ok (.aload_n 0, 1) := by decide +kernel
theorem dC_Sl1_charAt_7 : decode cC_Sl1_charAt 7 = .ok (.iload_n 1, 1) := by decide +kernel
theorem dC_Sl1_charAt_8 : decode cC_Sl1_charAt 8 = .ok (.baload, 1) := by decide +kernel
theorem dC_Sl1_charAt_9 : decode cC_Sl1_charAt 9 = .ok (.sipush (255), 3) := by decide +kernel
theorem dC_Sl1_charAt_12 : decode cC_Sl1_charAt 12 = .ok (.iand, 1) := by decide +kernel
theorem dC_Sl1_charAt_13 : decode cC_Sl1_charAt 13 = .ok (.i2c, 1) := by decide +kernel
theorem dC_Sl1_charAt_14 : decode cC_Sl1_charAt 14 = .ok (.ireturn, 1) := by decide +kernel
abbrev cC_Str_charAt : ByteArray := prog_29_method_56_code
def yC_Str_charAt : MethodName := ⟨R_Str, "charAt", "(I)C"⟩
theorem dC_Str_charAt_0 : decode cC_Str_charAt 0 = .ok (.aload_n 0, 1) := by decide +kernel
theorem dC_Str_charAt_1 : decode cC_Str_charAt 1 = .ok (.invokevirtual 492, 3) := by decide +kernel
theorem dC_Str_charAt_4 : decode cC_Str_charAt 4 = .ok (.ifCond .eq (12), 3) := by decide +kernel
theorem dC_Str_charAt_7 : decode cC_Str_charAt 7 = .ok (.aload_n 0, 1) := by decide +kernel
theorem dC_Str_charAt_8 : decode cC_Str_charAt 8 = .ok (.getfield 9, 3) := by decide +kernel
theorem dC_Str_charAt_11 : decode cC_Str_charAt 11 = .ok (.iload_n 1, 1) := by decide +kernel
theorem dC_Str_charAt_12 : decode cC_Str_charAt 12 = .ok (.invokestatic 495, 3) := by decide +kernel
theorem dC_Str_charAt_15 : decode cC_Str_charAt 15 = .ok (.ireturn, 1) := by decide +kernel
theorem dC_Str_charAt_16 : decode cC_Str_charAt 16 = .ok (.aload_n 0, 1) := by decide +kernel
theorem dC_Str_charAt_17 : decode cC_Str_charAt 17 = .ok (.getfield 9, 3) := by decide +kernel
theorem dC_Str_charAt_20 : decode cC_Str_charAt 20 = .ok (.iload_n 1, 1) := by decide +kernel
theorem dC_Str_charAt_21 : decode cC_Str_charAt 21 = .ok (.invokestatic 498, 3) := by decide +kernel
abbrev cC_Sl1_canEncode : ByteArray := prog_31_method_4_code
def yC_Sl1_canEncode : MethodName := ⟨"java/lang/StringLatin1", "canEncode", "(I)Z"⟩
abbrev rm_Sl1_canEncode : Room := { frames := 0, cells := 0, slots := 0, locals := 0 }
theorem dC_Sl1_canEncode_0 : decode cC_Sl1_canEncode 0 = .ok (.iload_n 0, 1) := by decide +kernel
theorem dC_Sl1_canEncode_1 : decode cC_Sl1_canEncode 1 = .ok (.ifCond .lt (14), 3) := by decide +kernel
theorem dC_Sl1_canEncode_4 : decode cC_Sl1_canEncode 4 = .ok (.iload_n 0, 1) := by decide +kernel
theorem dC_Sl1_canEncode_5 : decode cC_Sl1_canEncode 5 = .ok (.sipush (255), 3) := by decide +kernel
theorem dC_Sl1_canEncode_8 : decode cC_Sl1_canEncode 8 = .ok (.if_icmp .gt (7), 3) := by decide +kernel
theorem dC_Sl1_canEncode_11 : decode cC_Sl1_canEncode 11 = .ok (.iconst (1), 1) := by decide +kernel
theorem dC_Sl1_canEncode_12 : decode cC_Sl1_canEncode 12 = .ok (.goto (4), 3) := by decide +kernel
theorem dC_Sl1_canEncode_15 : decode cC_Sl1_canEncode 15 = .ok (.iconst (0), 1) := by decide +kernel
theorem dC_Sl1_canEncode_16 : decode cC_Sl1_canEncode 16 = .ok (.ireturn, 1) := by decide +kernel
abbrev cC_Sl1_indexOfChar : ByteArray := prog_31_method_23_code
def yC_Sl1_indexOfChar : MethodName := ⟨"java/lang/StringLatin1", "indexOfChar", "([BIII)I"⟩
theorem dC_Sl1_indexOfChar_0 : decode cC_Sl1_indexOfChar 0 = .ok (.iload_n 1, 1) := by decide +kernel
theorem dC_Sl1_indexOfChar_1 : decode cC_Sl1_indexOfChar 1 = .ok (.i2b, 1) := by decide +kernel
theorem dC_Sl1_indexOfChar_2 : decode cC_Sl1_indexOfChar 2 = .ok (.istore 4, 2) := by decide +kernel
theorem dC_Sl1_indexOfChar_4 : decode cC_Sl1_indexOfChar 4 = .ok (.iload_n 2, 1) := by decide +kernel
theorem dC_Sl1_indexOfChar_5 : decode cC_Sl1_indexOfChar 5 = .ok (.istore 5, 2) := by decide +kernel
theorem dC_Sl1_indexOfChar_7 : decode cC_Sl1_indexOfChar 7 = .ok (.iload 5, 2) := by decide +kernel
theorem dC_Sl1_indexOfChar_9 : decode cC_Sl1_indexOfChar 9 = .ok (.iload_n 3, 1) := by decide +kernel
theorem dC_Sl1_indexOfChar_10 : decode cC_Sl1_indexOfChar 10 = .ok (.if_icmp .ge (21), 3) := by decide +kernel
theorem dC_Sl1_indexOfChar_13 : decode cC_Sl1_indexOfChar 13 = .ok (.aload_n 0, 1) := by decide +kernel
theorem dC_Sl1_indexOfChar_14 : decode cC_Sl1_indexOfChar 14 = .ok (.iload 5, 2) := by decide +kernel
theorem dC_Sl1_indexOfChar_16 : decode cC_Sl1_indexOfChar 16 = .ok (.baload, 1) := by decide +kernel
theorem dC_Sl1_indexOfChar_17 : decode cC_Sl1_indexOfChar 17 = .ok (.iload 4, 2) := by decide +kernel
theorem dC_Sl1_indexOfChar_19 : decode cC_Sl1_indexOfChar 19 = .ok (.if_icmp .ne (6), 3) := by decide +kernel
theorem dC_Sl1_indexOfChar_22 : decode cC_Sl1_indexOfChar 22 = .ok (.iload 5, 2) := by decide +kernel
theorem dC_Sl1_indexOfChar_24 : decode cC_Sl1_indexOfChar 24 = .ok (.ireturn, 1) := by decide +kernel
theorem dC_Sl1_indexOfChar_25 : decode cC_Sl1_indexOfChar 25 = .ok (.iinc 5 (1), 3) := by decide +kernel
theorem dC_Sl1_indexOfChar_28 : decode cC_Sl1_indexOfChar 28 = .ok (.goto (-21), 3) := by decide +kernel
theorem dC_Sl1_indexOfChar_31 : decode cC_Sl1_indexOfChar 31 = .ok (.iconst (-1), 1) := by decide +kernel
theorem dC_Sl1_indexOfChar_32 : decode cC_Sl1_indexOfChar 32 = .ok (.ireturn, 1) := by decide +kernel
abbrev cC_Sl1_indexOf : ByteArray := prog_31_method_22_code
def yC_Sl1_indexOf : MethodName := ⟨"java/lang/StringLatin1", "indexOf", "([BIII)I"⟩
theorem dC_Sl1_indexOf_0 : decode cC_Sl1_indexOf 0 = .ok (.iload_n 1, 1) := by decide +kernel
theorem dC_Sl1_indexOf_1 : decode cC_Sl1_indexOf 1 = .ok (.invokestatic 88, 3) := by decide +kernel
theorem dC_Sl1_indexOf_4 : decode cC_Sl1_indexOf 4 = .ok (.ifCond .ne (5), 3) := by decide +kernel
theorem dC_Sl1_indexOf_7 : decode cC_Sl1_indexOf 7 = .ok (.iconst (-1), 1) := by decide +kernel
theorem dC_Sl1_indexOf_8 : decode cC_Sl1_indexOf 8 = .ok (.ireturn, 1) := by decide +kernel
theorem dC_Sl1_indexOf_9 : decode cC_Sl1_indexOf 9 = .ok (.iload_n 2, 1) := by decide +kernel
theorem dC_Sl1_indexOf_10 : decode cC_Sl1_indexOf 10 = .ok (.iconst (0), 1) := by decide +kernel
theorem dC_Sl1_indexOf_11 : decode cC_Sl1_indexOf 11 = .ok (.invokestatic 92, 3) := by decide +kernel
theorem dC_Sl1_indexOf_14 : decode cC_Sl1_indexOf 14 = .ok (.istore_n 2, 1) := by decide +kernel
theorem dC_Sl1_indexOf_15 : decode cC_Sl1_indexOf 15 = .ok (.iload_n 3, 1) := by decide +kernel
theorem dC_Sl1_indexOf_16 : decode cC_Sl1_indexOf 16 = .ok (.aload_n 0, 1) := by decide +kernel
theorem dC_Sl1_indexOf_17 : decode cC_Sl1_indexOf 17 = .ok (.arraylength, 1) := by decide +kernel
theorem dC_Sl1_indexOf_18 : decode cC_Sl1_indexOf 18 = .ok (.invokestatic 38, 3) := by decide +kernel
theorem dC_Sl1_indexOf_21 : decode cC_Sl1_indexOf 21 = .ok (.istore_n 3, 1) := by decide +kernel
theorem dC_Sl1_indexOf_22 : decode cC_Sl1_indexOf 22 = .ok (.iload_n 2, 1) := by decide +kernel
theorem dC_Sl1_indexOf_23 : decode cC_Sl1_indexOf 23 = .ok (.iload_n 3, 1) := by decide +kernel
theorem dC_Sl1_indexOf_24 : decode cC_Sl1_indexOf 24 = .ok (.if_icmp .lt (5), 3) := by decide +kernel
theorem dC_Sl1_indexOf_27 : decode cC_Sl1_indexOf 27 = .ok (.iconst (-1), 1) := by decide +kernel
theorem dC_Sl1_indexOf_28 : decode cC_Sl1_indexOf 28 = .ok (.ireturn, 1) := by decide +kernel
theorem dC_Sl1_indexOf_29 : decode cC_Sl1_indexOf 29 = .ok (.aload_n 0, 1) := by decide +kernel
theorem dC_Sl1_indexOf_30 : decode cC_Sl1_indexOf 30 = .ok (.iload_n 1, 1) := by decide +kernel
theorem dC_Sl1_indexOf_31 : decode cC_Sl1_indexOf 31 = .ok (.iload_n 2, 1) := by decide +kernel
theorem dC_Sl1_indexOf_32 : decode cC_Sl1_indexOf 32 = .ok (.iload_n 3, 1) := by decide +kernel
theorem dC_Sl1_indexOf_33 : decode cC_Sl1_indexOf 33 = .ok (.invokestatic 95, 3) := by decide +kernel
theorem dC_Sl1_indexOf_36 : decode cC_Sl1_indexOf 36 = .ok (.ireturn, 1) := by decide +kernel
abbrev cC_Str_indexOf : ByteArray := prog_29_method_80_code
def yC_Str_indexOf : MethodName := ⟨R_Str, "indexOf", "(II)I"⟩
theorem dC_Str_indexOf_0 : decode cC_Str_indexOf 0 = .ok (.aload_n 0, 1) := by decide +kernel
theorem dC_Str_indexOf_1 : decode cC_Str_indexOf 1 = .ok (.invokevirtual 492, 3) := by decide +kernel
theorem dC_Str_indexOf_4 : decode cC_Str_indexOf 4 = .ok (.ifCond .eq (19), 3) := by decide +kernel
theorem dC_Str_indexOf_7 : decode cC_Str_indexOf 7 = .ok (.aload_n 0, 1) := by decide +kernel
theorem dC_Str_indexOf_8 : decode cC_Str_indexOf 8 = .ok (.getfield 9, 3) := by decide +kernel
theorem dC_Str_indexOf_11 : decode cC_Str_indexOf 11 = .ok (.iload_n 1, 1) := by decide +kernel
theorem dC_Str_indexOf_12 : decode cC_Str_indexOf 12 = .ok (.iload_n 2, 1) := by decide +kernel
theorem dC_Str_indexOf_13 : decode cC_Str_indexOf 13 = .ok (.aload_n 0, 1) := by decide +kernel
theorem dC_Str_indexOf_14 : decode cC_Str_indexOf 14 = .ok (.invokevirtual 505, 3) := by decide +kernel
theorem dC_Str_indexOf_17 : decode cC_Str_indexOf 17 = .ok (.invokestatic 637, 3) := by decide +kernel
theorem dC_Str_indexOf_20 : decode cC_Str_indexOf 20 = .ok (.goto (16), 3) := by decide +kernel
theorem dC_Str_indexOf_23 : decode cC_Str_indexOf 23 = .ok (.aload_n 0, 1) := by decide +kernel
theorem dC_Str_indexOf_24 : decode cC_Str_indexOf 24 = .ok (.getfield 9, 3) := by decide +kernel
theorem dC_Str_indexOf_27 : decode cC_Str_indexOf 27 = .ok (.iload_n 1, 1) := by decide +kernel
theorem dC_Str_indexOf_28 : decode cC_Str_indexOf 28 = .ok (.iload_n 2, 1) := by decide +kernel
theorem dC_Str_indexOf_29 : decode cC_Str_indexOf 29 = .ok (.aload_n 0, 1) := by decide +kernel
theorem dC_Str_indexOf_30 : decode cC_Str_indexOf 30 = .ok (.invokevirtual 505, 3) := by decide +kernel
theorem dC_Str_indexOf_33 : decode cC_Str_indexOf 33 = .ok (.invokestatic 640, 3) := by decide +kernel
theorem dC_Str_indexOf_36 : decode cC_Str_indexOf 36 = .ok (.ireturn, 1) := by decide +kernel
abbrev cC_Str_indexOf1 : ByteArray := prog_29_method_79_code
def yC_Str_indexOf1 : MethodName := ⟨R_Str, "indexOf", "(I)I"⟩
theorem dC_Str_indexOf1_0 : decode cC_Str_indexOf1 0 = .ok (.aload_n 0, 1) := by decide +kernel
theorem dC_Str_indexOf1_1 : decode cC_Str_indexOf1 1 = .ok (.iload_n 1, 1) := by decide +kernel
theorem dC_Str_indexOf1_2 : decode cC_Str_indexOf1 2 = .ok (.iconst (0), 1) := by decide +kernel
theorem dC_Str_indexOf1_3 : decode cC_Str_indexOf1 3 = .ok (.invokevirtual 633, 3) := by decide +kernel
theorem dC_Str_indexOf1_6 : decode cC_Str_indexOf1 6 = .ok (.ireturn, 1) := by decide +kernel
abbrev cC_Fie_isRegister : ByteArray := prog_3_method_2_code
def yC_Fie_isRegister : MethodName := ⟨"LineAssembler$Fields", "isRegister", "(I)Z"⟩
theorem dC_Fie_isRegister_0 : decode cC_Fie_isRegister 0 = .ok (.ldc 9, 2) := by decide +kernel
theorem dC_Fie_isRegister_2 : decode cC_Fie_isRegister 2 = .ok (.iload_n 0, 1) := by decide +kernel
theorem dC_Fie_isRegister_3 : decode cC_Fie_isRegister 3 = .ok (.i2c, 1) := by decide +kernel
theorem dC_Fie_isRegister_4 : decode cC_Fie_isRegister 4 = .ok (.invokevirtual 11, 3) := by decide +kernel
theorem dC_Fie_isRegister_7 : decode cC_Fie_isRegister 7 = .ok (.ifCond .lt (7), 3) := by decide +kernel
theorem dC_Fie_isRegister_10 : decode cC_Fie_isRegister 10 = .ok (.iconst (1), 1) := by decide +kernel
theorem dC_Fie_isRegister_11 : decode cC_Fie_isRegister 11 = .ok (.goto (4), 3) := by decide +kernel
theorem dC_Fie_isRegister_14 : decode cC_Fie_isRegister 14 = .ok (.iconst (0), 1) := by decide +kernel
theorem dC_Fie_isRegister_15 : decode cC_Fie_isRegister 15 = .ok (.ireturn, 1) := by decide +kernel
abbrev cC_Op_isAtomic : ByteArray := prog_8_method_7_code
def yC_Op_isAtomic : MethodName := ⟨"LineAssembler$Op", "isAtomic", "()Z"⟩
theorem dC_Op_isAtomic_0 : decode cC_Op_isAtomic 0 = .ok (.aload_n 0, 1) := by decide +kernel
theorem dC_Op_isAtomic_1 : decode cC_Op_isAtomic 1 = .ok (.getfield 413, 3) := by decide +kernel
theorem dC_Op_isAtomic_4 : decode cC_Op_isAtomic 4 = .ok (.ifCond .ne (19), 3) := by decide +kernel
theorem dC_Op_isAtomic_7 : decode cC_Op_isAtomic 7 = .ok (.aload_n 0, 1) := by decide +kernel
theorem dC_Op_isAtomic_8 : decode cC_Op_isAtomic 8 = .ok (.getfield 420, 3) := by decide +kernel
theorem dC_Op_isAtomic_11 : decode cC_Op_isAtomic 11 = .ok (.bipush (127), 2) := by decide +kernel
theorem dC_Op_isAtomic_13 : decode cC_Op_isAtomic 13 = .ok (.iand, 1) := by decide +kernel
theorem dC_Op_isAtomic_14 : decode cC_Op_isAtomic 14 = .ok (.bipush (47), 2) := by decide +kernel
theorem dC_Op_isAtomic_16 : decode cC_Op_isAtomic 16 = .ok (.if_icmp .ne (7), 3) := by decide +kernel
theorem dC_Op_isAtomic_19 : decode cC_Op_isAtomic 19 = .ok (.iconst (1), 1) := by decide +kernel
theorem dC_Op_isAtomic_20 : decode cC_Op_isAtomic 20 = .ok (.goto (4), 3) := by decide +kernel
theorem dC_Op_isAtomic_23 : decode cC_Op_isAtomic 23 = .ok (.iconst (0), 1) := by decide +kernel
theorem dC_Op_isAtomic_24 : decode cC_Op_isAtomic 24 = .ok (.ireturn, 1) := by decide +kernel
theorem gC_Fie_11 : GoodIn lw_gd (wsV "LineAssembler$Fields" 11 R_Str yC_Str_indexOf1 (.code yC_Str_indexOf1 cC_Str_indexOf1 2 (some .int) :: lw_gd)) := lw_GV qc_1273 qc_1270 qc_1271 qc_1272 qc_9
theorem gC_Str_335 : GoodIn lw_gd (wsV R_Str 335 R_Str yC_Str_coder (.code yC_Str_coder cC_Str_coder 1 (some .byte) :: lw_gd)) := lw_GV qc_114 qc_111 qc_112 qc_113 qc_9
theorem gC_Str_492 : GoodIn lw_gd (wsV R_Str 492 R_Str yC_Str_isLatin1 (.code yC_Str_isLatin1 cC_Str_isLatin1 1 (some .boolean) :: lw_gd)) := lw_GV qc_124 qc_121 qc_122 qc_123 qc_9
theorem gC_Str_505 : GoodIn lw_gd (wsV R_Str 505 R_Str yC_Str_length (.code yC_Str_length cC_Str_length 1 (some .int) :: lw_gd)) := lw_GV qc_110 qc_1278 qc_108 qc_109 qc_9
theorem gC_Str_633 : GoodIn lw_gd (wsV R_Str 633 R_Str yC_Str_indexOf (.code yC_Str_indexOf cC_Str_indexOf 3 (some .int) :: lw_gd)) := lw_GV qc_1277 qc_1274 qc_1275 qc_1276 qc_9
section
variable {p : Program} {l : Launch} {e : Env} {s : State} {m : MethodId} {args : Array Value} {below : List Frame} {meth : Method} {c : Code} {D : va_G} {dA : Nat → ClassId} {z : Nat → Nat} {o b i : Nat → Nat} {A : Nat → Prop}
def C_Str_coder_14 (t0 : Int32) : Option Int32 :=
  gd (isBy t0) (some t0)
set_option maxHeartbeats 4000000 in
set_option maxRecDepth 100000 in
theorem bC_Str_coder_14  {r : Int32} (C : CxC R_Str p s m args meth c cC_Str_coder 1 (some .byte) D dA z A) (t0 : Int32) (hM : C_Str_coder_14  t0 = some r) (hW : WdC D A s [] s.heap []) (ls : Array Slot) (hl : lv_has ls 1 []) : W p l e (rmC 0 0 0 0) s m args below meth c s.heap [] 0 0 (MQ below (QS (some (.int r))) args s 0 0 (fun _ => False)) (F0 m 14 ls [.int t0]) := by
  have hx := C.1.1
  have hb := C.1.2.1
  have hown := C.1.2.2.2.2.1
  have hT := C.1.2.2.2.2.2.1
  unfold C_Str_coder_14 at hM
  obtain ⟨hg1, hM⟩ := gd_some hM
  obtain rfl := sm_i hM
  exact x_retSn (pc := 14) C.1 rfl (isBy_n hg1) dC_Str_coder_14
def C_Str_coder (k0 : Nat) : Option Int32 :=
  (if (1 : Int32) = 0 then C_Str_coder_14  (1 : Int32) else gd (decide (k0 < ex_N)) (C_Str_coder_14  (0 : Int32)))
set_option maxHeartbeats 4000000 in
set_option maxRecDepth 100000 in
theorem bC_Str_coder_0  {r : Int32} (C : CxC R_Str p s m args meth c cC_Str_coder 1 (some .byte) D dA z A) (k0 : Nat) (hM : C_Str_coder  k0 = some r) (hW : WdC D A s [] s.heap []) (ls : Array Slot) (hl : lv_has ls 1 [(0, .ref (sK z k0))]) : W p l e (rmC 0 0 0 0) s m args below meth c s.heap [] 0 0 (MQ below (QS (some (.int r))) args s 0 0 (fun _ => False)) (F0 m 0 ls []) := by
  have hx := C.1.1
  have hb := C.1.2.1
  have hown := C.1.2.2.2.2.1
  have hT := C.1.2.2.2.2.2.1
  unfold C_Str_coder at hM
  refine va_gets (pc := 0) hx hb C.2.2.2.cs hW.2.2 hown (hT _ qc_115) (fun _ h => h) dC_Str_coder_0 ?_
  refine lv_if_eq (pc := 3) (tgt := 13) hx hb dC_Str_coder_3 (by decide) (fun hc => ?_) (fun hc => ?_)
  · replace hM := it_t hc hM
    refine lv_iconst (pc := 13) (v := 1) hx hb dC_Str_coder_13 (by decide) ?_
    exact bC_Str_coder_14  C  _ hM hW _ (lv_sub hl [] rfl)
  · replace hM := it_f hc hM
    refine lv_aload_n (pc := 6) hx hb dC_Str_coder_6 rfl (lv_at hl 0 rfl) ?_
    obtain ⟨hg1, hM⟩ := gd_some hM
    refine vk_getf (pc := 7) hx hb (ex_cod C.2.2.2 (of_decide_eq_true hg1)) hW.2.2 hown (hT _ qc_883) (fun _ h => h) dC_Str_coder_7 ?_
    refine lv_goto (pc := 10) (tgt := 14) hx hb dC_Str_coder_10 (by decide) ?_
    exact bC_Str_coder_14  C  _ hM hW _ (lv_sub hl [] rfl)
theorem kC_Str_coder (l : Launch) (D : va_G) (dA : Nat → ClassId) (z : Nat → Nat) (o b : Nat → Nat) (k0 : Nat) {r : Int32} (hM : C_Str_coder k0 = some r) : KQ l D dA z yC_Str_coder cC_Str_coder 1 (some .byte) 0 0 [] [.ref (sK z k0)] (some (.int r)) := x_enterQ (by decide +kernel) (Nat.le_of_ble_eq_true rfl) (fun p e s m args below meth c A C hW ls hl => bC_Str_coder_0 C k0 hM hW ls hl)
def C_Str_isLatin1_18 (t0 : Int32) : Option Int32 :=
  gd (isB t0) (some t0)
set_option maxHeartbeats 4000000 in
set_option maxRecDepth 100000 in
theorem bC_Str_isLatin1_18  {r : Int32} (C : CxC R_Str p s m args meth c cC_Str_isLatin1 1 (some .boolean) D dA z A) (t0 : Int32) (hM : C_Str_isLatin1_18  t0 = some r) (hW : WdC D A s [] s.heap []) (ls : Array Slot) (hl : lv_has ls 1 []) : W p l e (rmC 0 0 0 0) s m args below meth c s.heap [] 0 0 (MQ below (QS (some (.int r))) args s 0 0 (fun _ => False)) (F0 m 18 ls [.int t0]) := by
  have hx := C.1.1
  have hb := C.1.2.1
  have hown := C.1.2.2.2.2.1
  have hT := C.1.2.2.2.2.2.1
  unfold C_Str_isLatin1_18 at hM
  obtain ⟨hg1, hM⟩ := gd_some hM
  obtain rfl := sm_i hM
  exact x_retSz (pc := 18) C.1 rfl hg1 dC_Str_isLatin1_18
def C_Str_isLatin1_17  : Option Int32 :=
  C_Str_isLatin1_18  (0 : Int32)
set_option maxHeartbeats 4000000 in
set_option maxRecDepth 100000 in
theorem bC_Str_isLatin1_17  {r : Int32} (C : CxC R_Str p s m args meth c cC_Str_isLatin1 1 (some .boolean) D dA z A)  (hM : C_Str_isLatin1_17   = some r) (hW : WdC D A s [] s.heap []) (ls : Array Slot) (hl : lv_has ls 1 []) : W p l e (rmC 0 0 0 0) s m args below meth c s.heap [] 0 0 (MQ below (QS (some (.int r))) args s 0 0 (fun _ => False)) (F0 m 17 ls []) := by
  have hx := C.1.1
  have hb := C.1.2.1
  have hown := C.1.2.2.2.2.1
  have hT := C.1.2.2.2.2.2.1
  unfold C_Str_isLatin1_17 at hM
  refine lv_iconst (pc := 17) (v := 0) hx hb dC_Str_isLatin1_17 (by decide) ?_
  exact bC_Str_isLatin1_18  C  _ hM hW _ (lv_sub hl [] rfl)
def C_Str_isLatin1 (k0 : Nat) : Option Int32 :=
  (if (1 : Int32) = 0 then C_Str_isLatin1_17   else gd (decide (k0 < ex_N)) ((if (0 : Int32) = 0 then C_Str_isLatin1_18  (1 : Int32) else C_Str_isLatin1_17  )))
set_option maxHeartbeats 4000000 in
set_option maxRecDepth 100000 in
theorem bC_Str_isLatin1_0  {r : Int32} (C : CxC R_Str p s m args meth c cC_Str_isLatin1 1 (some .boolean) D dA z A) (k0 : Nat) (hM : C_Str_isLatin1  k0 = some r) (hW : WdC D A s [] s.heap []) (ls : Array Slot) (hl : lv_has ls 1 [(0, .ref (sK z k0))]) : W p l e (rmC 0 0 0 0) s m args below meth c s.heap [] 0 0 (MQ below (QS (some (.int r))) args s 0 0 (fun _ => False)) (F0 m 0 ls []) := by
  have hx := C.1.1
  have hb := C.1.2.1
  have hown := C.1.2.2.2.2.1
  have hT := C.1.2.2.2.2.2.1
  unfold C_Str_isLatin1 at hM
  refine va_gets (pc := 0) hx hb C.2.2.2.cs hW.2.2 hown (hT _ qc_115) (fun _ h => h) dC_Str_isLatin1_0 ?_
  refine lv_if_eq (pc := 3) (tgt := 17) hx hb dC_Str_isLatin1_3 (by decide) (fun hc => ?_) (fun hc => ?_)
  · replace hM := it_t hc hM
    exact bC_Str_isLatin1_17  C   hM hW _ (lv_sub hl [] rfl)
  · replace hM := it_f hc hM
    refine lv_aload_n (pc := 6) hx hb dC_Str_isLatin1_6 rfl (lv_at hl 0 rfl) ?_
    obtain ⟨hg1, hM⟩ := gd_some hM
    refine vk_getf (pc := 7) hx hb (ex_cod C.2.2.2 (of_decide_eq_true hg1)) hW.2.2 hown (hT _ qc_883) (fun _ h => h) dC_Str_isLatin1_7 ?_
    refine lv_if_ne (pc := 10) (tgt := 17) hx hb dC_Str_isLatin1_10 (by decide) (fun hc => ?_) (fun hc => ?_)
    · replace hM := it_f hc hM
      exact bC_Str_isLatin1_17  C   hM hW _ (lv_sub hl [] rfl)
    · replace hM := it_t hc hM
      refine lv_iconst (pc := 13) (v := 1) hx hb dC_Str_isLatin1_13 (by decide) ?_
      refine lv_goto (pc := 14) (tgt := 18) hx hb dC_Str_isLatin1_14 (by decide) ?_
      exact bC_Str_isLatin1_18  C  _ hM hW _ (lv_sub hl [] rfl)
theorem kC_Str_isLatin1 (l : Launch) (D : va_G) (dA : Nat → ClassId) (z : Nat → Nat) (o b : Nat → Nat) (k0 : Nat) {r : Int32} (hM : C_Str_isLatin1 k0 = some r) : KQ l D dA z yC_Str_isLatin1 cC_Str_isLatin1 1 (some .boolean) 0 0 [] [.ref (sK z k0)] (some (.int r)) := x_enterQ (by decide +kernel) (Nat.le_of_ble_eq_true rfl) (fun p e s m args below meth c A C hW ls hl => bC_Str_isLatin1_0 C k0 hM hW ls hl)
def C_Str_length (k0 : Nat) : Option Int32 :=
  gd (decide (k0 < ex_N)) (gd (decide (k0 < ex_N)) (gd (decide (k0 < ex_N)) (cr (C_Str_coder  k0) (fun r4 => some ((nI (ex_len.getD k0 0)) >>> (r4 &&& 31))))))
set_option maxHeartbeats 4000000 in
set_option maxRecDepth 100000 in
theorem bC_Str_length_0  {r : Int32} (C : CxC R_Str p s m args meth c cC_Str_length 1 (some .int) D dA z A) (k0 : Nat) (hM : C_Str_length  k0 = some r) (hW : WdC D A s [] s.heap []) (ls : Array Slot) (hl : lv_has ls 1 [(0, .ref (sK z k0))]) : W p l e (rmC 1 20 0 0) s m args below meth c s.heap [] 0 0 (MQ below (QS (some (.int r))) args s 0 0 (fun _ => False)) (F0 m 0 ls []) := by
  have hx := C.1.1
  have hb := C.1.2.1
  have hown := C.1.2.2.2.2.1
  have hT := C.1.2.2.2.2.2.1
  unfold C_Str_length at hM
  refine lv_aload_n (pc := 0) hx hb dC_Str_length_0 rfl (lv_at hl 0 rfl) ?_
  obtain ⟨hg1, hM⟩ := gd_some hM
  refine vk_getf (pc := 1) hx hb (ex_val C.2.2.2 (of_decide_eq_true hg1)) hW.2.2 hown (hT _ qc_882) (fun _ h => h) dC_Str_length_1 ?_
  obtain ⟨hg2, hM⟩ := gd_some hM
  refine va_tlen (pc := 4) (v := nI (ex_len.getD k0 0)) hx hb (ex_byte C.2.2.2 (of_decide_eq_true hg2)) hW.2.2 rfl dC_Str_length_4 ?_
  refine lv_aload_n (pc := 5) hx hb dC_Str_length_5 rfl (lv_at hl 0 rfl) ?_
  obtain ⟨hg3, hM⟩ := gd_some hM
  obtain ⟨r4, hr4, hM⟩ := cr_some hM
  refine x_callK (pc := 6) (n' := 0) (Wc := []) (ov := some (.int r4)) C hW (kC_Str_coder l D dA z (fun _ => 0) (fun _ => 0)  k0 hr4) [] rfl (by decide +kernel) rfl (ex_rS C.2.2.2 (of_decide_eq_true hg3) hW.2.2) gC_Str_335 ⟨rfl, by decide, by decide, by decide +kernel⟩ ⟨Nat.le_of_ble_eq_true rfl, Nat.le_of_ble_eq_true rfl⟩ ⟨Nat.le_refl _, Nat.le_refl _⟩ (As := []) (n := 0) rfl hl.1 rfl (Nat.le_of_ble_eq_true rfl) dC_Str_length_6 ?_
  refine lv_ishr (pc := 9) hx hb dC_Str_length_9 ?_
  obtain rfl := sm_i hM
  exact x_retS (pc := 10) C.1 rfl dC_Str_length_10
theorem kC_Str_length (l : Launch) (D : va_G) (dA : Nat → ClassId) (z : Nat → Nat) (o b : Nat → Nat) (k0 : Nat) {r : Int32} (hM : C_Str_length k0 = some r) : KQ l D dA z yC_Str_length cC_Str_length 1 (some .int) 1 20 [] [.ref (sK z k0)] (some (.int r)) := x_enterQ (by decide +kernel) (Nat.le_of_ble_eq_true rfl) (fun p e s m args below meth c A C hW ls hl => bC_Str_length_0 C k0 hM hW ls hl)
def C_Sl1_charAt (v0 : Nat) (x1 : Int32) : Option Int32 :=
  gd (decide (v0 < ex_N)) (cr (C_Str_checkIndex  x1 (nI (ex_len.getD v0 0))) (fun r2 => gd (decide (v0 < ex_N)) (gd (inB x1 (ex_len.getD v0 0)) (gd (isC (((((ex_byt.getD v0 []).getD x1.toNatClampNeg 0) &&& (255 : Int32)).toUInt32 % 65536).toInt32)) (some (((((ex_byt.getD v0 []).getD x1.toNatClampNeg 0) &&& (255 : Int32)).toUInt32 % 65536).toInt32))))))
set_option maxHeartbeats 4000000 in
set_option maxRecDepth 100000 in
theorem bC_Sl1_charAt_0  {r : Int32} (C : CxC "java/lang/StringLatin1" p s m args meth c cC_Sl1_charAt 2 (some .char) D dA z A) (v0 : Nat) (x1 : Int32) (hM : C_Sl1_charAt  v0 x1 = some r) (hW : WdC D A s [] s.heap []) (ls : Array Slot) (hl : lv_has ls 2 [(0, .ref (sV z v0)), (1, .int x1)]) : W p l e (rmC 2 81 0 0) s m args below meth c s.heap [] 0 0 (MQ below (QS (some (.int r))) args s 0 0 (fun _ => False)) (F0 m 0 ls []) := by
  have hx := C.1.1
  have hb := C.1.2.1
  have hown := C.1.2.2.2.2.1
  have hT := C.1.2.2.2.2.2.1
  unfold C_Sl1_charAt at hM
  refine lv_iload_n (pc := 0) hx hb dC_Sl1_charAt_0 rfl (lv_at hl 1 rfl) ?_
  refine lv_aload_n (pc := 1) hx hb dC_Sl1_charAt_1 rfl (lv_at hl 0 rfl) ?_
  obtain ⟨hg1, hM⟩ := gd_some hM
  refine va_tlen (pc := 2) (v := nI (ex_len.getD v0 0)) hx hb (ex_byte C.2.2.2 (of_decide_eq_true hg1)) hW.2.2 rfl dC_Sl1_charAt_2 ?_
  obtain ⟨r2, hr2, hM⟩ := cr_some hM
  refine x_callQS (pc := 3) (n' := 0) (Wc := []) (ov := none) C hW (kC_Str_checkIndex l D dA z (fun _ => 0) (fun _ => 0)  x1 (nI (ex_len.getD v0 0)) hr2) [] rfl (by decide +kernel) rfl qc_130 qc_128 qc_129 qc_9 ⟨by decide, by decide, by decide +kernel⟩ ⟨Nat.le_of_ble_eq_true rfl, Nat.le_of_ble_eq_true rfl⟩ ⟨Nat.le_refl _, Nat.le_refl _⟩ (As := [.int x1, .int (nI (ex_len.getD v0 0))]) (n := 2) rfl hl.1 rfl (Nat.le_of_ble_eq_true rfl) dC_Sl1_charAt_3 ?_
  refine lv_aload_n (pc := 6) hx hb dC_Sl1_charAt_6 rfl (lv_at hl 0 rfl) ?_
  refine lv_iload_n (pc := 7) hx hb dC_Sl1_charAt_7 rfl (lv_at hl 1 rfl) ?_
  obtain ⟨hg3, hM⟩ := gd_some hM
  obtain ⟨hg4, hM⟩ := gd_some hM
  refine va_tb (pc := 8) hx hb (ex_byte C.2.2.2 (of_decide_eq_true hg3)) hW.2.2 (inB_in hg4) rfl dC_Sl1_charAt_8 ?_
  refine lv_sipush (pc := 9) (v := 255) hx hb dC_Sl1_charAt_9 (by decide) ?_
  refine lv_iand (pc := 12) hx hb dC_Sl1_charAt_12 ?_
  refine lv_i2c (pc := 13) (v := ((((ex_byt.getD v0 []).getD x1.toNatClampNeg 0) &&& (255 : Int32)).toUInt32 % 65536).toInt32) hx hb dC_Sl1_charAt_13 rfl ?_
  obtain ⟨hg5, hM⟩ := gd_some hM
  obtain rfl := sm_i hM
  exact x_retSn (pc := 14) C.1 rfl (isC_n hg5) dC_Sl1_charAt_14
theorem kC_Sl1_charAt (l : Launch) (D : va_G) (dA : Nat → ClassId) (z : Nat → Nat) (o b : Nat → Nat) (v0 : Nat) (x1 : Int32) {r : Int32} (hM : C_Sl1_charAt v0 x1 = some r) : KQ l D dA z yC_Sl1_charAt cC_Sl1_charAt 2 (some .char) 2 81 [] [.ref (sV z v0), .int x1] (some (.int r)) := x_enterQ (by decide +kernel) (Nat.le_of_ble_eq_true rfl) (fun p e s m args below meth c A C hW ls hl => bC_Sl1_charAt_0 C v0 x1 hM hW ls hl)
def C_Str_charAt (k0 : Nat) (x1 : Int32) : Option Int32 :=
  gd (decide (k0 < ex_N)) (cr (C_Str_isLatin1  k0) (fun r2 => (if r2 = 0 then gd (decide (k0 < ex_N)) (none) else gd (decide (k0 < ex_N)) (cr (C_Sl1_charAt  k0 x1) (fun r5 => gd (isC r5) (some r5))))))
set_option maxHeartbeats 4000000 in
set_option maxRecDepth 100000 in
theorem bC_Str_charAt_0  {r : Int32} (C : CxC R_Str p s m args meth c cC_Str_charAt 2 (some .char) D dA z A) (k0 : Nat) (x1 : Int32) (hM : C_Str_charAt  k0 x1 = some r) (hW : WdC D A s [] s.heap []) (ls : Array Slot) (hl : lv_has ls 2 [(0, .ref (sK z k0)), (1, .int x1)]) : W p l e (rmC 3 102 0 0) s m args below meth c s.heap [] 0 0 (MQ below (QS (some (.int r))) args s 0 0 (fun _ => False)) (F0 m 0 ls []) := by
  have hx := C.1.1
  have hb := C.1.2.1
  have hown := C.1.2.2.2.2.1
  have hT := C.1.2.2.2.2.2.1
  unfold C_Str_charAt at hM
  refine lv_aload_n (pc := 0) hx hb dC_Str_charAt_0 rfl (lv_at hl 0 rfl) ?_
  obtain ⟨hg1, hM⟩ := gd_some hM
  obtain ⟨r2, hr2, hM⟩ := cr_some hM
  refine x_callK (pc := 1) (n' := 0) (Wc := []) (ov := some (.int r2)) C hW (kC_Str_isLatin1 l D dA z (fun _ => 0) (fun _ => 0)  k0 hr2) [] rfl (by decide +kernel) rfl (ex_rS C.2.2.2 (of_decide_eq_true hg1) hW.2.2) gC_Str_492 ⟨rfl, by decide, by decide, by decide +kernel⟩ ⟨Nat.le_of_ble_eq_true rfl, Nat.le_of_ble_eq_true rfl⟩ ⟨Nat.le_refl _, Nat.le_refl _⟩ (As := []) (n := 0) rfl hl.1 rfl (Nat.le_of_ble_eq_true rfl) dC_Str_charAt_1 ?_
  refine lv_if_eq (pc := 4) (tgt := 16) hx hb dC_Str_charAt_4 (by decide) (fun hc => ?_) (fun hc => ?_)
  · replace hM := it_t hc hM
    refine lv_aload_n (pc := 16) hx hb dC_Str_charAt_16 rfl (lv_at hl 0 rfl) ?_
    obtain ⟨hg3, hM⟩ := gd_some hM
    refine vk_getf (pc := 17) hx hb (ex_val C.2.2.2 (of_decide_eq_true hg3)) hW.2.2 hown (hT _ qc_882) (fun _ h => h) dC_Str_charAt_17 ?_
    refine lv_iload_n (pc := 20) hx hb dC_Str_charAt_20 rfl (lv_at hl 1 rfl) ?_
    cases hM
  · replace hM := it_f hc hM
    refine lv_aload_n (pc := 7) hx hb dC_Str_charAt_7 rfl (lv_at hl 0 rfl) ?_
    obtain ⟨hg4, hM⟩ := gd_some hM
    refine vk_getf (pc := 8) hx hb (ex_val C.2.2.2 (of_decide_eq_true hg4)) hW.2.2 hown (hT _ qc_882) (fun _ h => h) dC_Str_charAt_8 ?_
    refine lv_iload_n (pc := 11) hx hb dC_Str_charAt_11 rfl (lv_at hl 1 rfl) ?_
    obtain ⟨r5, hr5, hM⟩ := cr_some hM
    refine x_callQS (pc := 12) (n' := 0) (Wc := []) (ov := some (.int r5)) C hW (kC_Sl1_charAt l D dA z (fun _ => 0) (fun _ => 0)  k0 x1 hr5) [] rfl (by decide +kernel) rfl qc_127 qc_125 qc_126 qc_10 ⟨by decide, by decide, by decide +kernel⟩ ⟨Nat.le_of_ble_eq_true rfl, Nat.le_of_ble_eq_true rfl⟩ ⟨Nat.le_refl _, Nat.le_refl _⟩ (As := [.ref (sV z k0), .int x1]) (n := 2) rfl hl.1 rfl (Nat.le_of_ble_eq_true rfl) dC_Str_charAt_12 ?_
    obtain ⟨hg6, hM⟩ := gd_some hM
    obtain rfl := sm_i hM
    exact x_retSn (pc := 15) C.1 rfl (isC_n hg6) dC_Str_charAt_15
theorem kC_Str_charAt (l : Launch) (D : va_G) (dA : Nat → ClassId) (z : Nat → Nat) (o b : Nat → Nat) (k0 : Nat) (x1 : Int32) {r : Int32} (hM : C_Str_charAt k0 x1 = some r) : KQ l D dA z yC_Str_charAt cC_Str_charAt 2 (some .char) 3 102 [] [.ref (sK z k0), .int x1] (some (.int r)) := x_enterQ (by decide +kernel) (Nat.le_of_ble_eq_true rfl) (fun p e s m args below meth c A C hW ls hl => bC_Str_charAt_0 C k0 x1 hM hW ls hl)
def C_Sl1_canEncode_16 (t0 : Int32) : Option Int32 :=
  gd (isB t0) (some t0)
set_option maxHeartbeats 4000000 in
set_option maxRecDepth 100000 in
theorem bC_Sl1_canEncode_16  {r : Int32} (C : CxS "java/lang/StringLatin1" p s m args meth c cC_Sl1_canEncode 1 (some .boolean)) (t0 : Int32) (hM : C_Sl1_canEncode_16  t0 = some r) (ls : Array Slot) (hl : lv_has ls 1 []) : W p l e rm_Sl1_canEncode s m args below meth c s.heap [] 0 0 (MQ below (QS (some (.int r))) args s 0 0 (fun _ => False)) (F0 m 16 ls [.int t0]) := by
  have hx := C.1
  have hb := C.2.1
  have hown := C.2.2.2.2.1
  have hT := C.2.2.2.2.2.1
  unfold C_Sl1_canEncode_16 at hM
  obtain ⟨hg1, hM⟩ := gd_some hM
  obtain rfl := sm_i hM
  exact x_retSz (pc := 16) C rfl hg1 dC_Sl1_canEncode_16
def C_Sl1_canEncode_15  : Option Int32 :=
  C_Sl1_canEncode_16  (0 : Int32)
set_option maxHeartbeats 4000000 in
set_option maxRecDepth 100000 in
theorem bC_Sl1_canEncode_15  {r : Int32} (C : CxS "java/lang/StringLatin1" p s m args meth c cC_Sl1_canEncode 1 (some .boolean))  (hM : C_Sl1_canEncode_15   = some r) (ls : Array Slot) (hl : lv_has ls 1 []) : W p l e rm_Sl1_canEncode s m args below meth c s.heap [] 0 0 (MQ below (QS (some (.int r))) args s 0 0 (fun _ => False)) (F0 m 15 ls []) := by
  have hx := C.1
  have hb := C.2.1
  have hown := C.2.2.2.2.1
  have hT := C.2.2.2.2.2.1
  unfold C_Sl1_canEncode_15 at hM
  refine lv_iconst (pc := 15) (v := 0) hx hb dC_Sl1_canEncode_15 (by decide) ?_
  exact bC_Sl1_canEncode_16  C  _ hM _ (lv_sub hl [] rfl)
def C_Sl1_canEncode (x0 : Int32) : Option Int32 :=
  (if x0 < 0 then C_Sl1_canEncode_15   else (if (255 : Int32) < x0 then C_Sl1_canEncode_15   else C_Sl1_canEncode_16  (1 : Int32)))
set_option maxHeartbeats 4000000 in
set_option maxRecDepth 100000 in
theorem bC_Sl1_canEncode_0  {r : Int32} (C : CxS "java/lang/StringLatin1" p s m args meth c cC_Sl1_canEncode 1 (some .boolean)) (x0 : Int32) (hM : C_Sl1_canEncode  x0 = some r) (ls : Array Slot) (hl : lv_has ls 1 [(0, .int x0)]) : W p l e rm_Sl1_canEncode s m args below meth c s.heap [] 0 0 (MQ below (QS (some (.int r))) args s 0 0 (fun _ => False)) (F0 m 0 ls []) := by
  have hx := C.1
  have hb := C.2.1
  have hown := C.2.2.2.2.1
  have hT := C.2.2.2.2.2.1
  unfold C_Sl1_canEncode at hM
  refine lv_iload_n (pc := 0) hx hb dC_Sl1_canEncode_0 rfl (lv_at hl 0 rfl) ?_
  refine lv_if_lt (pc := 1) (tgt := 15) hx hb dC_Sl1_canEncode_1 (by decide) (fun hc => ?_) (fun hc => ?_)
  · replace hM := it_t hc hM
    exact bC_Sl1_canEncode_15  C   hM _ (lv_sub hl [] rfl)
  · replace hM := it_f hc hM
    refine lv_iload_n (pc := 4) hx hb dC_Sl1_canEncode_4 rfl (lv_at hl 0 rfl) ?_
    refine lv_sipush (pc := 5) (v := 255) hx hb dC_Sl1_canEncode_5 (by decide) ?_
    refine lv_icmp_gt (pc := 8) (tgt := 15) hx hb dC_Sl1_canEncode_8 (by decide) (fun hc => ?_) (fun hc => ?_)
    · replace hM := it_t hc hM
      exact bC_Sl1_canEncode_15  C   hM _ (lv_sub hl [] rfl)
    · replace hM := it_f hc hM
      refine lv_iconst (pc := 11) (v := 1) hx hb dC_Sl1_canEncode_11 (by decide) ?_
      refine lv_goto (pc := 12) (tgt := 16) hx hb dC_Sl1_canEncode_12 (by decide) ?_
      exact bC_Sl1_canEncode_16  C  _ hM _ (lv_sub hl [] rfl)
theorem kC_Sl1_canEncode (l : Launch) (x0 : Int32) {r : Int32} (hM : C_Sl1_canEncode x0 = some r) : KS l yC_Sl1_canEncode cC_Sl1_canEncode 1 (some .boolean) rm_Sl1_canEncode [.int x0] (some (.int r)) := x_enterS (by decide +kernel) (Nat.le_of_ble_eq_true rfl) (fun p e s m args below meth c C ls hl => bC_Sl1_canEncode_0 C x0 hM ls hl)
def C_Sl1_indexOfChar_7 (N : Nat)  : Nat → Nat → Int32 → Int32 → Int32 → Option Int32
  | 0 => fun _ _ _ _ => none
  | n + 1 => fun v0 x3 x4 x5 => (if x3 ≤ x5 then some (-1 : Int32) else gd (decide (v0 < ex_N)) (gd (inB x5 (ex_len.getD v0 0)) ((if ((ex_byt.getD v0 []).getD x5.toNatClampNeg 0) = x4 then some x5 else (C_Sl1_indexOfChar_7 N  n) v0 x3 x4 (x5 + (1 : Int32))))))
set_option maxHeartbeats 4000000 in
set_option maxRecDepth 100000 in
theorem bC_Sl1_indexOfChar_7 (N : Nat)  {r : Int32} (C : CxC "java/lang/StringLatin1" p s m args meth c cC_Sl1_indexOfChar 6 (some .int) D dA z A) : ∀ (n : Nat) (v0 : Nat) (x3 : Int32) (x4 : Int32) (x5 : Int32) , C_Sl1_indexOfChar_7 N  n v0 x3 x4 x5 = some r → ∀ (hW : WdC D A s [] s.heap []) (ls : Array Slot) (hl : lv_has ls 6 [(0, .ref (sV z v0)), (3, .int x3), (4, .int x4), (5, .int x5)]), W p l e (rmC 0 0 0 0) s m args below meth c s.heap [] 0 0 (MQ below (QS (some (.int r))) args s 0 0 (fun _ => False)) (F0 m 7 ls []) := by
  have hx := C.1.1
  have hb := C.1.2.1
  have hown := C.1.2.2.2.2.1
  have hT := C.1.2.2.2.2.2.1
  intro n
  induction n with
  | zero => intro v0 x3 x4 x5 hM; cases hM
  | succ n hrec7 =>
    intro v0 x3 x4 x5 hM hW ls hl
    rw [C_Sl1_indexOfChar_7] at hM
    refine lv_iload (pc := 7) hx hb dC_Sl1_indexOfChar_7 (lv_at hl 3 rfl) ?_
    refine lv_iload_n (pc := 9) hx hb dC_Sl1_indexOfChar_9 rfl (lv_at hl 1 rfl) ?_
    refine lv_icmp_ge (pc := 10) (tgt := 31) hx hb dC_Sl1_indexOfChar_10 (by decide) (fun hc => ?_) (fun hc => ?_)
    · replace hM := it_t hc hM
      refine lv_iconst (pc := 31) (v := -1) hx hb dC_Sl1_indexOfChar_31 (by decide) ?_
      obtain rfl := sm_i hM
      exact x_retS (pc := 32) C.1 rfl dC_Sl1_indexOfChar_32
    · replace hM := it_f hc hM
      refine lv_aload_n (pc := 13) hx hb dC_Sl1_indexOfChar_13 rfl (lv_at hl 0 rfl) ?_
      refine lv_iload (pc := 14) hx hb dC_Sl1_indexOfChar_14 (lv_at hl 3 rfl) ?_
      obtain ⟨hg1, hM⟩ := gd_some hM
      obtain ⟨hg2, hM⟩ := gd_some hM
      refine va_tb (pc := 16) hx hb (ex_byte C.2.2.2 (of_decide_eq_true hg1)) hW.2.2 (inB_in hg2) rfl dC_Sl1_indexOfChar_16 ?_
      refine lv_iload (pc := 17) hx hb dC_Sl1_indexOfChar_17 (lv_at hl 2 rfl) ?_
      refine lv_icmp_ne (pc := 19) (tgt := 25) hx hb dC_Sl1_indexOfChar_19 (by decide) (fun hc => ?_) (fun hc => ?_)
      · replace hM := it_f hc hM
        refine lv_iinc (pc := 25) (v := x5 + (1 : Int32)) (lv' := [(5, .int (x5 + (1 : Int32))), (0, .ref (sV z v0)), (3, .int x3), (4, .int x4)]) hx hb dC_Sl1_indexOfChar_25 hl (k := 3) rfl rfl (by decide) rfl (fun ls hl => ?_)
        refine lv_goto (pc := 28) (tgt := 7) hx hb dC_Sl1_indexOfChar_28 (by decide) ?_
        exact hrec7 _ _ _ _ hM hW _ (lv_sub hl [1, 2, 3, 0] rfl)
      · replace hM := it_t hc hM
        refine lv_iload (pc := 22) hx hb dC_Sl1_indexOfChar_22 (lv_at hl 3 rfl) ?_
        obtain rfl := sm_i hM
        exact x_retS (pc := 24) C.1 rfl dC_Sl1_indexOfChar_24
def C_Sl1_indexOfChar (N : Nat) (v0 : Nat) (x1 : Int32) (x2 : Int32) (x3 : Int32) : Option Int32 :=
  C_Sl1_indexOfChar_7 N  N v0 x3 x1.toInt8.toInt32 x2
set_option maxHeartbeats 4000000 in
set_option maxRecDepth 100000 in
theorem bC_Sl1_indexOfChar_0 (N : Nat)  {r : Int32} (C : CxC "java/lang/StringLatin1" p s m args meth c cC_Sl1_indexOfChar 6 (some .int) D dA z A) (v0 : Nat) (x1 : Int32) (x2 : Int32) (x3 : Int32) (hM : C_Sl1_indexOfChar N  v0 x1 x2 x3 = some r) (hW : WdC D A s [] s.heap []) (ls : Array Slot) (hl : lv_has ls 6 [(0, .ref (sV z v0)), (1, .int x1), (2, .int x2), (3, .int x3)]) : W p l e (rmC 0 0 0 0) s m args below meth c s.heap [] 0 0 (MQ below (QS (some (.int r))) args s 0 0 (fun _ => False)) (F0 m 0 ls []) := by
  have hx := C.1.1
  have hb := C.1.2.1
  have hown := C.1.2.2.2.2.1
  have hT := C.1.2.2.2.2.2.1
  unfold C_Sl1_indexOfChar at hM
  refine lv_iload_n (pc := 0) hx hb dC_Sl1_indexOfChar_0 rfl (lv_at hl 1 rfl) ?_
  refine lv_i2b (pc := 1) (v := x1.toInt8.toInt32) hx hb dC_Sl1_indexOfChar_1 rfl ?_
  refine lv_istore (pc := 2) (lv' := [(4, .int x1.toInt8.toInt32), (0, .ref (sV z v0)), (1, .int x1), (2, .int x2), (3, .int x3)]) hx hb dC_Sl1_indexOfChar_2 hl (by decide) rfl (fun ls hl => ?_)
  refine lv_iload_n (pc := 4) hx hb dC_Sl1_indexOfChar_4 rfl (lv_at hl 3 rfl) ?_
  refine lv_istore (pc := 5) (lv' := [(5, .int x2), (4, .int x1.toInt8.toInt32), (0, .ref (sV z v0)), (1, .int x1), (2, .int x2), (3, .int x3)]) hx hb dC_Sl1_indexOfChar_5 hl (by decide) rfl (fun ls hl => ?_)
  exact bC_Sl1_indexOfChar_7 N  C  N _ _ _ _ hM hW _ (lv_sub hl [2, 5, 1, 0] rfl)
theorem kC_Sl1_indexOfChar (l : Launch) (D : va_G) (dA : Nat → ClassId) (z : Nat → Nat) (o b : Nat → Nat) (N : Nat) (v0 : Nat) (x1 : Int32) (x2 : Int32) (x3 : Int32) {r : Int32} (hM : C_Sl1_indexOfChar N v0 x1 x2 x3 = some r) : KQ l D dA z yC_Sl1_indexOfChar cC_Sl1_indexOfChar 6 (some .int) 0 0 [] [.ref (sV z v0), .int x1, .int x2, .int x3] (some (.int r)) := x_enterQ (by decide +kernel) (Nat.le_of_ble_eq_true rfl) (fun p e s m args below meth c A C hW ls hl => bC_Sl1_indexOfChar_0 N C v0 x1 x2 x3 hM hW ls hl)
def C_Sl1_indexOf (N : Nat) (v0 : Nat) (x1 : Int32) (x2 : Int32) (x3 : Int32) : Option Int32 :=
  cr (C_Sl1_canEncode  x1) (fun r1 => (if r1 = 0 then some (-1 : Int32) else gd (decide (v0 < ex_N)) ((if (jmax x2 (0 : Int32)) < (jmin x3 (nI (ex_len.getD v0 0))) then cr (C_Sl1_indexOfChar N v0 x1 (jmax x2 (0 : Int32)) (jmin x3 (nI (ex_len.getD v0 0)))) (fun r3 => some r3) else some (-1 : Int32)))))
set_option maxHeartbeats 4000000 in
set_option maxRecDepth 100000 in
theorem bC_Sl1_indexOf_0 (N : Nat)  {r : Int32} (C : CxC "java/lang/StringLatin1" p s m args meth c cC_Sl1_indexOf 4 (some .int) D dA z A) (v0 : Nat) (x1 : Int32) (x2 : Int32) (x3 : Int32) (hM : C_Sl1_indexOf N  v0 x1 x2 x3 = some r) (hW : WdC D A s [] s.heap []) (ls : Array Slot) (hl : lv_has ls 4 [(0, .ref (sV z v0)), (1, .int x1), (2, .int x2), (3, .int x3)]) : W p l e (rmC 1 40 0 0) s m args below meth c s.heap [] 0 0 (MQ below (QS (some (.int r))) args s 0 0 (fun _ => False)) (F0 m 0 ls []) := by
  have hx := C.1.1
  have hb := C.1.2.1
  have hown := C.1.2.2.2.2.1
  have hT := C.1.2.2.2.2.2.1
  unfold C_Sl1_indexOf at hM
  refine lv_iload_n (pc := 0) hx hb dC_Sl1_indexOf_0 rfl (lv_at hl 1 rfl) ?_
  obtain ⟨r1, hr1, hM⟩ := cr_some hM
  refine x_callU (pc := 1) (ov := some (.int r1)) C.1 (kC_Sl1_canEncode l  x1 hr1) qc_1284 qc_1282 qc_1283 qc_10 ⟨by decide, by decide, by decide +kernel⟩ ⟨rfl, rfl⟩ ⟨Nat.le_of_ble_eq_true rfl, Nat.le_of_ble_eq_true rfl⟩ ⟨Nat.le_refl _, Nat.le_refl _⟩ (As := [.int x1]) (n := 1) rfl hl.1 rfl (Nat.le_of_ble_eq_true rfl) dC_Sl1_indexOf_1 ?_
  refine lv_if_ne (pc := 4) (tgt := 9) hx hb dC_Sl1_indexOf_4 (by decide) (fun hc => ?_) (fun hc => ?_)
  · replace hM := it_f hc hM
    refine lv_iload_n (pc := 9) hx hb dC_Sl1_indexOf_9 rfl (lv_at hl 2 rfl) ?_
    refine lv_iconst (pc := 10) (v := 0) hx hb dC_Sl1_indexOf_10 (by decide) ?_
    refine va_mmax (pc := 11) hx hb (C.1.2.2.1.trans hl.1.symm) hown (hT _ qc_1285) (hT _ qc_713) (hT _ qc_5) (hT _ qc_714) (Nat.le_of_ble_eq_true rfl) (Nat.le_of_ble_eq_true rfl) (Nat.le_refl _) (Nat.le_refl _) dC_Sl1_indexOf_11 ?_
    refine x_seti (b := jmax x2 (0 : Int32)) rfl ?_
    refine lv_istore_n (pc := 14) (lv' := [(2, .int (jmax x2 (0 : Int32))), (0, .ref (sV z v0)), (1, .int x1), (3, .int x3)]) hx hb dC_Sl1_indexOf_14 rfl hl (by decide) rfl (fun ls hl => ?_)
    refine lv_iload_n (pc := 15) hx hb dC_Sl1_indexOf_15 rfl (lv_at hl 3 rfl) ?_
    refine lv_aload_n (pc := 16) hx hb dC_Sl1_indexOf_16 rfl (lv_at hl 1 rfl) ?_
    obtain ⟨hg2, hM⟩ := gd_some hM
    refine va_tlen (pc := 17) (v := nI (ex_len.getD v0 0)) hx hb (ex_byte C.2.2.2 (of_decide_eq_true hg2)) hW.2.2 rfl dC_Sl1_indexOf_17 ?_
    refine va_mmin (pc := 18) hx hb (C.1.2.2.1.trans hl.1.symm) hown (hT _ qc_1286) (hT _ qc_87) (hT _ qc_5) (hT _ qc_88) (Nat.le_of_ble_eq_true rfl) (Nat.le_of_ble_eq_true rfl) (Nat.le_refl _) (Nat.le_refl _) dC_Sl1_indexOf_18 ?_
    refine x_seti (b := jmin x3 (nI (ex_len.getD v0 0))) rfl ?_
    refine lv_istore_n (pc := 21) (lv' := [(3, .int (jmin x3 (nI (ex_len.getD v0 0)))), (2, .int (jmax x2 (0 : Int32))), (0, .ref (sV z v0)), (1, .int x1)]) hx hb dC_Sl1_indexOf_21 rfl hl (by decide) rfl (fun ls hl => ?_)
    refine lv_iload_n (pc := 22) hx hb dC_Sl1_indexOf_22 rfl (lv_at hl 1 rfl) ?_
    refine lv_iload_n (pc := 23) hx hb dC_Sl1_indexOf_23 rfl (lv_at hl 0 rfl) ?_
    refine lv_icmp_lt (pc := 24) (tgt := 29) hx hb dC_Sl1_indexOf_24 (by decide) (fun hc => ?_) (fun hc => ?_)
    · replace hM := it_t hc hM
      refine lv_aload_n (pc := 29) hx hb dC_Sl1_indexOf_29 rfl (lv_at hl 2 rfl) ?_
      refine lv_iload_n (pc := 30) hx hb dC_Sl1_indexOf_30 rfl (lv_at hl 3 rfl) ?_
      refine lv_iload_n (pc := 31) hx hb dC_Sl1_indexOf_31 rfl (lv_at hl 1 rfl) ?_
      refine lv_iload_n (pc := 32) hx hb dC_Sl1_indexOf_32 rfl (lv_at hl 0 rfl) ?_
      obtain ⟨r3, hr3, hM⟩ := cr_some hM
      refine x_callQS (pc := 33) (n' := 0) (Wc := []) (ov := some (.int r3)) C hW (kC_Sl1_indexOfChar l D dA z (fun _ => 0) (fun _ => 0) N v0 x1 (jmax x2 (0 : Int32)) (jmin x3 (nI (ex_len.getD v0 0))) hr3) [] rfl (by decide +kernel) rfl qc_1289 qc_1287 qc_1288 qc_10 ⟨by decide, by decide, by decide +kernel⟩ ⟨Nat.le_of_ble_eq_true rfl, Nat.le_of_ble_eq_true rfl⟩ ⟨Nat.le_refl _, Nat.le_refl _⟩ (As := [.ref (sV z v0), .int x1, .int (jmax x2 (0 : Int32)), .int (jmin x3 (nI (ex_len.getD v0 0)))]) (n := 4) rfl hl.1 rfl (Nat.le_of_ble_eq_true rfl) dC_Sl1_indexOf_33 ?_
      obtain rfl := sm_i hM
      exact x_retS (pc := 36) C.1 rfl dC_Sl1_indexOf_36
    · replace hM := it_f hc hM
      refine lv_iconst (pc := 27) (v := -1) hx hb dC_Sl1_indexOf_27 (by decide) ?_
      obtain rfl := sm_i hM
      exact x_retS (pc := 28) C.1 rfl dC_Sl1_indexOf_28
  · replace hM := it_t hc hM
    refine lv_iconst (pc := 7) (v := -1) hx hb dC_Sl1_indexOf_7 (by decide) ?_
    obtain rfl := sm_i hM
    exact x_retS (pc := 8) C.1 rfl dC_Sl1_indexOf_8
theorem kC_Sl1_indexOf (l : Launch) (D : va_G) (dA : Nat → ClassId) (z : Nat → Nat) (o b : Nat → Nat) (N : Nat) (v0 : Nat) (x1 : Int32) (x2 : Int32) (x3 : Int32) {r : Int32} (hM : C_Sl1_indexOf N v0 x1 x2 x3 = some r) : KQ l D dA z yC_Sl1_indexOf cC_Sl1_indexOf 4 (some .int) 1 40 [] [.ref (sV z v0), .int x1, .int x2, .int x3] (some (.int r)) := x_enterQ (by decide +kernel) (Nat.le_of_ble_eq_true rfl) (fun p e s m args below meth c A C hW ls hl => bC_Sl1_indexOf_0 N C v0 x1 x2 x3 hM hW ls hl)
def C_Str_indexOf (N : Nat) (k0 : Nat) (x1 : Int32) (x2 : Int32) : Option Int32 :=
  gd (decide (k0 < ex_N)) (cr (C_Str_isLatin1  k0) (fun r2 => (if r2 = 0 then gd (decide (k0 < ex_N)) (gd (decide (k0 < ex_N)) (cr (C_Str_length  k0) (fun r5 => none))) else gd (decide (k0 < ex_N)) (gd (decide (k0 < ex_N)) (cr (C_Str_length  k0) (fun r8 => cr (C_Sl1_indexOf N k0 x1 x2 r8) (fun r9 => some r9)))))))
set_option maxHeartbeats 4000000 in
set_option maxRecDepth 100000 in
theorem bC_Str_indexOf_0 (N : Nat)  {r : Int32} (C : CxC R_Str p s m args meth c cC_Str_indexOf 3 (some .int) D dA z A) (k0 : Nat) (x1 : Int32) (x2 : Int32) (hM : C_Str_indexOf N  k0 x1 x2 = some r) (hW : WdC D A s [] s.heap []) (ls : Array Slot) (hl : lv_has ls 3 [(0, .ref (sK z k0)), (1, .int x1), (2, .int x2)]) : W p l e (rmC 2 63 0 0) s m args below meth c s.heap [] 0 0 (MQ below (QS (some (.int r))) args s 0 0 (fun _ => False)) (F0 m 0 ls []) := by
  have hx := C.1.1
  have hb := C.1.2.1
  have hown := C.1.2.2.2.2.1
  have hT := C.1.2.2.2.2.2.1
  unfold C_Str_indexOf at hM
  refine lv_aload_n (pc := 0) hx hb dC_Str_indexOf_0 rfl (lv_at hl 0 rfl) ?_
  obtain ⟨hg1, hM⟩ := gd_some hM
  obtain ⟨r2, hr2, hM⟩ := cr_some hM
  refine x_callK (pc := 1) (n' := 0) (Wc := []) (ov := some (.int r2)) C hW (kC_Str_isLatin1 l D dA z (fun _ => 0) (fun _ => 0)  k0 hr2) [] rfl (by decide +kernel) rfl (ex_rS C.2.2.2 (of_decide_eq_true hg1) hW.2.2) gC_Str_492 ⟨rfl, by decide, by decide, by decide +kernel⟩ ⟨Nat.le_of_ble_eq_true rfl, Nat.le_of_ble_eq_true rfl⟩ ⟨Nat.le_refl _, Nat.le_refl _⟩ (As := []) (n := 0) rfl hl.1 rfl (Nat.le_of_ble_eq_true rfl) dC_Str_indexOf_1 ?_
  refine lv_if_eq (pc := 4) (tgt := 23) hx hb dC_Str_indexOf_4 (by decide) (fun hc => ?_) (fun hc => ?_)
  · replace hM := it_t hc hM
    refine lv_aload_n (pc := 23) hx hb dC_Str_indexOf_23 rfl (lv_at hl 0 rfl) ?_
    obtain ⟨hg3, hM⟩ := gd_some hM
    refine vk_getf (pc := 24) hx hb (ex_val C.2.2.2 (of_decide_eq_true hg3)) hW.2.2 hown (hT _ qc_882) (fun _ h => h) dC_Str_indexOf_24 ?_
    refine lv_iload_n (pc := 27) hx hb dC_Str_indexOf_27 rfl (lv_at hl 1 rfl) ?_
    refine lv_iload_n (pc := 28) hx hb dC_Str_indexOf_28 rfl (lv_at hl 2 rfl) ?_
    refine lv_aload_n (pc := 29) hx hb dC_Str_indexOf_29 rfl (lv_at hl 0 rfl) ?_
    obtain ⟨hg4, hM⟩ := gd_some hM
    obtain ⟨r5, hr5, hM⟩ := cr_some hM
    refine x_callK (pc := 30) (n' := 0) (Wc := []) (ov := some (.int r5)) C hW (kC_Str_length l D dA z (fun _ => 0) (fun _ => 0)  k0 hr5) [] rfl (by decide +kernel) rfl (ex_rS C.2.2.2 (of_decide_eq_true hg4) hW.2.2) gC_Str_505 ⟨rfl, by decide, by decide, by decide +kernel⟩ ⟨Nat.le_of_ble_eq_true rfl, Nat.le_of_ble_eq_true rfl⟩ ⟨Nat.le_refl _, Nat.le_refl _⟩ (As := []) (n := 0) rfl hl.1 rfl (Nat.le_of_ble_eq_true rfl) dC_Str_indexOf_30 ?_
    cases hM
  · replace hM := it_f hc hM
    refine lv_aload_n (pc := 7) hx hb dC_Str_indexOf_7 rfl (lv_at hl 0 rfl) ?_
    obtain ⟨hg6, hM⟩ := gd_some hM
    refine vk_getf (pc := 8) hx hb (ex_val C.2.2.2 (of_decide_eq_true hg6)) hW.2.2 hown (hT _ qc_882) (fun _ h => h) dC_Str_indexOf_8 ?_
    refine lv_iload_n (pc := 11) hx hb dC_Str_indexOf_11 rfl (lv_at hl 1 rfl) ?_
    refine lv_iload_n (pc := 12) hx hb dC_Str_indexOf_12 rfl (lv_at hl 2 rfl) ?_
    refine lv_aload_n (pc := 13) hx hb dC_Str_indexOf_13 rfl (lv_at hl 0 rfl) ?_
    obtain ⟨hg7, hM⟩ := gd_some hM
    obtain ⟨r8, hr8, hM⟩ := cr_some hM
    refine x_callK (pc := 14) (n' := 0) (Wc := []) (ov := some (.int r8)) C hW (kC_Str_length l D dA z (fun _ => 0) (fun _ => 0)  k0 hr8) [] rfl (by decide +kernel) rfl (ex_rS C.2.2.2 (of_decide_eq_true hg7) hW.2.2) gC_Str_505 ⟨rfl, by decide, by decide, by decide +kernel⟩ ⟨Nat.le_of_ble_eq_true rfl, Nat.le_of_ble_eq_true rfl⟩ ⟨Nat.le_refl _, Nat.le_refl _⟩ (As := []) (n := 0) rfl hl.1 rfl (Nat.le_of_ble_eq_true rfl) dC_Str_indexOf_14 ?_
    obtain ⟨r9, hr9, hM⟩ := cr_some hM
    refine x_callQS (pc := 17) (n' := 0) (Wc := []) (ov := some (.int r9)) C hW (kC_Sl1_indexOf l D dA z (fun _ => 0) (fun _ => 0) N k0 x1 x2 r8 hr9) [] rfl (by decide +kernel) rfl qc_1281 qc_1279 qc_1280 qc_10 ⟨by decide, by decide, by decide +kernel⟩ ⟨Nat.le_of_ble_eq_true rfl, Nat.le_of_ble_eq_true rfl⟩ ⟨Nat.le_refl _, Nat.le_refl _⟩ (As := [.ref (sV z k0), .int x1, .int x2, .int r8]) (n := 4) rfl hl.1 rfl (Nat.le_of_ble_eq_true rfl) dC_Str_indexOf_17 ?_
    refine lv_goto (pc := 20) (tgt := 36) hx hb dC_Str_indexOf_20 (by decide) ?_
    obtain rfl := sm_i hM
    exact x_retS (pc := 36) C.1 rfl dC_Str_indexOf_36
theorem kC_Str_indexOf (l : Launch) (D : va_G) (dA : Nat → ClassId) (z : Nat → Nat) (o b : Nat → Nat) (N : Nat) (k0 : Nat) (x1 : Int32) (x2 : Int32) {r : Int32} (hM : C_Str_indexOf N k0 x1 x2 = some r) : KQ l D dA z yC_Str_indexOf cC_Str_indexOf 3 (some .int) 2 63 [] [.ref (sK z k0), .int x1, .int x2] (some (.int r)) := x_enterQ (by decide +kernel) (Nat.le_of_ble_eq_true rfl) (fun p e s m args below meth c A C hW ls hl => bC_Str_indexOf_0 N C k0 x1 x2 hM hW ls hl)
def C_Str_indexOf1 (N : Nat) (k0 : Nat) (x1 : Int32) : Option Int32 :=
  gd (decide (k0 < ex_N)) (cr (C_Str_indexOf N k0 x1 (0 : Int32)) (fun r2 => some r2))
set_option maxHeartbeats 4000000 in
set_option maxRecDepth 100000 in
theorem bC_Str_indexOf1_0 (N : Nat)  {r : Int32} (C : CxC R_Str p s m args meth c cC_Str_indexOf1 2 (some .int) D dA z A) (k0 : Nat) (x1 : Int32) (hM : C_Str_indexOf1 N  k0 x1 = some r) (hW : WdC D A s [] s.heap []) (ls : Array Slot) (hl : lv_has ls 2 [(0, .ref (sK z k0)), (1, .int x1)]) : W p l e (rmC 3 85 0 0) s m args below meth c s.heap [] 0 0 (MQ below (QS (some (.int r))) args s 0 0 (fun _ => False)) (F0 m 0 ls []) := by
  have hx := C.1.1
  have hb := C.1.2.1
  have hown := C.1.2.2.2.2.1
  have hT := C.1.2.2.2.2.2.1
  unfold C_Str_indexOf1 at hM
  refine lv_aload_n (pc := 0) hx hb dC_Str_indexOf1_0 rfl (lv_at hl 0 rfl) ?_
  refine lv_iload_n (pc := 1) hx hb dC_Str_indexOf1_1 rfl (lv_at hl 1 rfl) ?_
  refine lv_iconst (pc := 2) (v := 0) hx hb dC_Str_indexOf1_2 (by decide) ?_
  obtain ⟨hg1, hM⟩ := gd_some hM
  obtain ⟨r2, hr2, hM⟩ := cr_some hM
  refine x_callK (pc := 3) (n' := 0) (Wc := []) (ov := some (.int r2)) C hW (kC_Str_indexOf l D dA z (fun _ => 0) (fun _ => 0) N k0 x1 (0 : Int32) hr2) [] rfl (by decide +kernel) rfl (ex_rS C.2.2.2 (of_decide_eq_true hg1) hW.2.2) gC_Str_633 ⟨rfl, by decide, by decide, by decide +kernel⟩ ⟨Nat.le_of_ble_eq_true rfl, Nat.le_of_ble_eq_true rfl⟩ ⟨Nat.le_refl _, Nat.le_refl _⟩ (As := [.int x1, .int (0 : Int32)]) (n := 2) rfl hl.1 rfl (Nat.le_of_ble_eq_true rfl) dC_Str_indexOf1_3 ?_
  obtain rfl := sm_i hM
  exact x_retS (pc := 6) C.1 rfl dC_Str_indexOf1_6
theorem kC_Str_indexOf1 (l : Launch) (D : va_G) (dA : Nat → ClassId) (z : Nat → Nat) (o b : Nat → Nat) (N : Nat) (k0 : Nat) (x1 : Int32) {r : Int32} (hM : C_Str_indexOf1 N k0 x1 = some r) : KQ l D dA z yC_Str_indexOf1 cC_Str_indexOf1 2 (some .int) 3 85 [] [.ref (sK z k0), .int x1] (some (.int r)) := x_enterQ (by decide +kernel) (Nat.le_of_ble_eq_true rfl) (fun p e s m args below meth c A C hW ls hl => bC_Str_indexOf1_0 N C k0 x1 hM hW ls hl)
def C_Fie_isRegister_15 (N : Nat) (t0 : Int32) : Option Int32 :=
  gd (isB t0) (some t0)
set_option maxHeartbeats 4000000 in
set_option maxRecDepth 100000 in
theorem bC_Fie_isRegister_15 (N : Nat)  {r : Int32} (C : CxC "LineAssembler$Fields" p s m args meth c cC_Fie_isRegister 1 (some .boolean) D dA z A) (t0 : Int32) (hM : C_Fie_isRegister_15 N  t0 = some r) (hW : WdC D A s [] s.heap []) (ls : Array Slot) (hl : lv_has ls 1 []) : W p l e (rmC 4 106 0 0) s m args below meth c s.heap [] 0 0 (MQ below (QS (some (.int r))) args s 0 0 (fun _ => False)) (F0 m 15 ls [.int t0]) := by
  have hx := C.1.1
  have hb := C.1.2.1
  have hown := C.1.2.2.2.2.1
  have hT := C.1.2.2.2.2.2.1
  unfold C_Fie_isRegister_15 at hM
  obtain ⟨hg1, hM⟩ := gd_some hM
  obtain rfl := sm_i hM
  exact x_retSz (pc := 15) C.1 rfl hg1 dC_Fie_isRegister_15
def C_Fie_isRegister (N : Nat) (x0 : Int32) : Option Int32 :=
  gd (decide (16 < ex_N)) (cr (C_Str_indexOf1 N 16 ((x0.toUInt32 % 65536).toInt32)) (fun r2 => (if r2 < 0 then C_Fie_isRegister_15 N  (0 : Int32) else C_Fie_isRegister_15 N  (1 : Int32))))
set_option maxHeartbeats 4000000 in
set_option maxRecDepth 100000 in
theorem bC_Fie_isRegister_0 (N : Nat)  {r : Int32} (C : CxC "LineAssembler$Fields" p s m args meth c cC_Fie_isRegister 1 (some .boolean) D dA z A) (x0 : Int32) (hM : C_Fie_isRegister N  x0 = some r) (hW : WdC D A s [] s.heap []) (ls : Array Slot) (hl : lv_has ls 1 [(0, .int x0)]) : W p l e (rmC 4 106 0 0) s m args below meth c s.heap [] 0 0 (MQ below (QS (some (.int r))) args s 0 0 (fun _ => False)) (F0 m 0 ls []) := by
  have hx := C.1.1
  have hb := C.1.2.1
  have hown := C.1.2.2.2.2.1
  have hT := C.1.2.2.2.2.2.1
  unfold C_Fie_isRegister at hM
  refine va_ldcS (pc := 0) hx hb hown (ex_R (r := ("LineAssembler$Fields", 9, "dabsnlmDA")) C.2.2.2 16 rfl) dC_Fie_isRegister_0 ?_
  refine lv_iload_n (pc := 2) hx hb dC_Fie_isRegister_2 rfl (lv_at hl 0 rfl) ?_
  refine lv_i2c (pc := 3) (v := (x0.toUInt32 % 65536).toInt32) hx hb dC_Fie_isRegister_3 rfl ?_
  obtain ⟨hg1, hM⟩ := gd_some hM
  obtain ⟨r2, hr2, hM⟩ := cr_some hM
  refine x_callK (pc := 4) (n' := 0) (Wc := []) (ov := some (.int r2)) C hW (kC_Str_indexOf1 l D dA z (fun _ => 0) (fun _ => 0) N 16 ((x0.toUInt32 % 65536).toInt32) hr2) [] rfl (by decide +kernel) rfl (ex_rS C.2.2.2 (of_decide_eq_true hg1) hW.2.2) gC_Fie_11 ⟨rfl, by decide, by decide, by decide +kernel⟩ ⟨Nat.le_of_ble_eq_true rfl, Nat.le_of_ble_eq_true rfl⟩ ⟨Nat.le_refl _, Nat.le_refl _⟩ (As := [.int ((x0.toUInt32 % 65536).toInt32)]) (n := 1) rfl hl.1 rfl (Nat.le_of_ble_eq_true rfl) dC_Fie_isRegister_4 ?_
  refine lv_if_lt (pc := 7) (tgt := 14) hx hb dC_Fie_isRegister_7 (by decide) (fun hc => ?_) (fun hc => ?_)
  · replace hM := it_t hc hM
    refine lv_iconst (pc := 14) (v := 0) hx hb dC_Fie_isRegister_14 (by decide) ?_
    exact bC_Fie_isRegister_15 N  C  _ hM hW _ (lv_sub hl [] rfl)
  · replace hM := it_f hc hM
    refine lv_iconst (pc := 10) (v := 1) hx hb dC_Fie_isRegister_10 (by decide) ?_
    refine lv_goto (pc := 11) (tgt := 15) hx hb dC_Fie_isRegister_11 (by decide) ?_
    exact bC_Fie_isRegister_15 N  C  _ hM hW _ (lv_sub hl [] rfl)
theorem kC_Fie_isRegister (l : Launch) (D : va_G) (dA : Nat → ClassId) (z : Nat → Nat) (o b : Nat → Nat) (N : Nat) (x0 : Int32) {r : Int32} (hM : C_Fie_isRegister N x0 = some r) : KQ l D dA z yC_Fie_isRegister cC_Fie_isRegister 1 (some .boolean) 4 106 [] [.int x0] (some (.int r)) := x_enterQ (by decide +kernel) (Nat.le_of_ble_eq_true rfl) (fun p e s m args below meth c A C hW ls hl => bC_Fie_isRegister_0 N C x0 hM hW ls hl)
def C_Op_isAtomic_24 (t0 : Int32) : Option Int32 :=
  gd (isB t0) (some t0)
set_option maxHeartbeats 4000000 in
set_option maxRecDepth 100000 in
theorem bC_Op_isAtomic_24  {r : Int32} (C : CxC "LineAssembler$Op" p s m args meth c cC_Op_isAtomic 1 (some .boolean) D dA z A) (t0 : Int32) (hM : C_Op_isAtomic_24  t0 = some r) (hW : WdC D A s [] s.heap []) (ls : Array Slot) (hl : lv_has ls 1 []) : W p l e (rmC 0 0 0 0) s m args below meth c s.heap [] 0 0 (MQ below (QS (some (.int r))) args s 0 0 (fun _ => False)) (F0 m 24 ls [.int t0]) := by
  have hx := C.1.1
  have hb := C.1.2.1
  have hown := C.1.2.2.2.2.1
  have hT := C.1.2.2.2.2.2.1
  unfold C_Op_isAtomic_24 at hM
  obtain ⟨hg1, hM⟩ := gd_some hM
  obtain rfl := sm_i hM
  exact x_retSz (pc := 24) C.1 rfl hg1 dC_Op_isAtomic_24
def C_Op_isAtomic_23  : Option Int32 :=
  C_Op_isAtomic_24  (0 : Int32)
set_option maxHeartbeats 4000000 in
set_option maxRecDepth 100000 in
theorem bC_Op_isAtomic_23  {r : Int32} (C : CxC "LineAssembler$Op" p s m args meth c cC_Op_isAtomic 1 (some .boolean) D dA z A)  (hM : C_Op_isAtomic_23   = some r) (hW : WdC D A s [] s.heap []) (ls : Array Slot) (hl : lv_has ls 1 []) : W p l e (rmC 0 0 0 0) s m args below meth c s.heap [] 0 0 (MQ below (QS (some (.int r))) args s 0 0 (fun _ => False)) (F0 m 23 ls []) := by
  have hx := C.1.1
  have hb := C.1.2.1
  have hown := C.1.2.2.2.2.1
  have hT := C.1.2.2.2.2.2.1
  unfold C_Op_isAtomic_23 at hM
  refine lv_iconst (pc := 23) (v := 0) hx hb dC_Op_isAtomic_23 (by decide) ?_
  exact bC_Op_isAtomic_24  C  _ hM hW _ (lv_sub hl [] rfl)
def C_Op_isAtomic (j0 : Nat) : Option Int32 :=
  gd (decide (j0 < ex_nO)) ((if (ex_role.getD j0 0) = 0 then gd (decide (j0 < ex_nO)) ((if ((ex_word.getD j0 0) &&& (127 : Int32)) = (47 : Int32) then C_Op_isAtomic_24  (1 : Int32) else C_Op_isAtomic_23  )) else C_Op_isAtomic_23  ))
set_option maxHeartbeats 4000000 in
set_option maxRecDepth 100000 in
theorem bC_Op_isAtomic_0  {r : Int32} (C : CxC "LineAssembler$Op" p s m args meth c cC_Op_isAtomic 1 (some .boolean) D dA z A) (j0 : Nat) (hM : C_Op_isAtomic  j0 = some r) (hW : WdC D A s [] s.heap []) (ls : Array Slot) (hl : lv_has ls 1 [(0, .ref (oP z j0))]) : W p l e (rmC 0 0 0 0) s m args below meth c s.heap [] 0 0 (MQ below (QS (some (.int r))) args s 0 0 (fun _ => False)) (F0 m 0 ls []) := by
  have hx := C.1.1
  have hb := C.1.2.1
  have hown := C.1.2.2.2.2.1
  have hT := C.1.2.2.2.2.2.1
  unfold C_Op_isAtomic at hM
  refine lv_aload_n (pc := 0) hx hb dC_Op_isAtomic_0 rfl (lv_at hl 0 rfl) ?_
  obtain ⟨hg1, hM⟩ := gd_some hM
  refine vk_getf (pc := 1) hx hb (ex_op_role C.2.2.2 (of_decide_eq_true hg1)) hW.2.2 hown (hT _ qc_2195) (fun _ h => h) dC_Op_isAtomic_1 ?_
  refine lv_if_ne (pc := 4) (tgt := 23) hx hb dC_Op_isAtomic_4 (by decide) (fun hc => ?_) (fun hc => ?_)
  · replace hM := it_f hc hM
    exact bC_Op_isAtomic_23  C   hM hW _ (lv_sub hl [] rfl)
  · replace hM := it_t hc hM
    refine lv_aload_n (pc := 7) hx hb dC_Op_isAtomic_7 rfl (lv_at hl 0 rfl) ?_
    obtain ⟨hg2, hM⟩ := gd_some hM
    refine vk_getf (pc := 8) hx hb (ex_op_word C.2.2.2 (of_decide_eq_true hg2)) hW.2.2 hown (hT _ qc_2196) (fun _ h => h) dC_Op_isAtomic_8 ?_
    refine lv_bipush (pc := 11) (v := 127) hx hb dC_Op_isAtomic_11 (by decide) ?_
    refine lv_iand (pc := 13) hx hb dC_Op_isAtomic_13 ?_
    refine lv_bipush (pc := 14) (v := 47) hx hb dC_Op_isAtomic_14 (by decide) ?_
    refine lv_icmp_ne (pc := 16) (tgt := 23) hx hb dC_Op_isAtomic_16 (by decide) (fun hc => ?_) (fun hc => ?_)
    · replace hM := it_f hc hM
      exact bC_Op_isAtomic_23  C   hM hW _ (lv_sub hl [] rfl)
    · replace hM := it_t hc hM
      refine lv_iconst (pc := 19) (v := 1) hx hb dC_Op_isAtomic_19 (by decide) ?_
      refine lv_goto (pc := 20) (tgt := 24) hx hb dC_Op_isAtomic_20 (by decide) ?_
      exact bC_Op_isAtomic_24  C  _ hM hW _ (lv_sub hl [] rfl)
theorem kC_Op_isAtomic (l : Launch) (D : va_G) (dA : Nat → ClassId) (z : Nat → Nat) (o b : Nat → Nat) (j0 : Nat) {r : Int32} (hM : C_Op_isAtomic j0 = some r) : KQ l D dA z yC_Op_isAtomic cC_Op_isAtomic 1 (some .boolean) 0 0 [] [.ref (oP z j0)] (some (.int r)) := x_enterQ (by decide +kernel) (Nat.le_of_ble_eq_true rfl) (fun p e s m args below meth c A C hW ls hl => bC_Op_isAtomic_0 C j0 hM hW ls hl)
end
