theorem qsc_3 : Cond.selects "LineAssembler$Names" (⟨"LineAssembler$Names", "isPut", "(I)Z"⟩ : MethodName) ⟨"LineAssembler$Names", "isPut", "(I)Z"⟩ ∈ lw_gd := lw_gds (List.mem_of_getElem? (i := 3) (by decide +kernel)) (by decide +kernel)
theorem qsc_5 : Cond.selects "LineAssembler$Names" (⟨"LineAssembler$Names", "finishRegister", "(I)V"⟩ : MethodName) ⟨"LineAssembler$Names", "finishRegister", "(I)V"⟩ ∈ lw_gd := lw_gds (List.mem_of_getElem? (i := 5) (by decide +kernel)) (by decide +kernel)
theorem qc_2 : (Jvm.Cond.initialized "LineAssembler$Row") ∈ lw_gd := uc_0 (List.mem_of_getElem? (i := 2) (by decide +kernel)) (by decide +kernel)
theorem qc_3 : (Jvm.Cond.initialized "LineAssembler$Names") ∈ lw_gd := uc_0 (List.mem_of_getElem? (i := 3) (by decide +kernel)) (by decide +kernel)
theorem qc_53 : (Jvm.Cond.fieldLink "LineAssembler$Names" (92 : Nat) "LineAssembler$Row" "count" "I") ∈ lw_gd := uc_0 (List.mem_of_getElem? (i := 53) (by decide +kernel)) (by decide +kernel)
theorem qc_72 : (Jvm.Cond.methodLink "LineAssembler$Names" (48 : Nat) ({ cls := "LineAssembler$Row", name := "add", desc := "(I)V" } : Jvm.MethodName)) ∈ lw_gd := uc_0 (List.mem_of_getElem? (i := 72) (by decide +kernel)) (by decide +kernel)
theorem qc_73 : (Jvm.Cond.instanceMethod ({ cls := "LineAssembler$Row", name := "add", desc := "(I)V" } : Jvm.MethodName)) ∈ lw_gd := uc_0 (List.mem_of_getElem? (i := 73) (by decide +kernel)) (by decide +kernel)
theorem qc_74 : (Jvm.Cond.selects "LineAssembler$Row" ({ cls := "LineAssembler$Row", name := "add", desc := "(I)V" } : Jvm.MethodName) ({ cls := "LineAssembler$Row", name := "add", desc := "(I)V" } : Jvm.MethodName)) ∈ lw_gd := uc_0 (List.mem_of_getElem? (i := 74) (by decide +kernel)) (by decide +kernel)
theorem qc_75 : (Jvm.Cond.code ({ cls := "LineAssembler$Row", name := "add", desc := "(I)V" } : Jvm.MethodName) prog_11_method_2_code (2 : Nat) (Option.none : Option Jvm.ClassFile.FieldType)) ∈ lw_gd := uc_0 (List.mem_of_getElem? (i := 75) (by decide +kernel)) (by decide +kernel)
theorem qc_155 : (Jvm.Cond.methodLink "LineAssembler$Names" (134 : Nat) ({ cls := "LineAssembler$Names", name := "put", desc := "(I)V" } : Jvm.MethodName)) ∈ lw_gd := uc_0 (List.mem_of_getElem? (i := 155) (by decide +kernel)) (by decide +kernel)
theorem qc_156 : (Jvm.Cond.instanceMethod ({ cls := "LineAssembler$Names", name := "put", desc := "(I)V" } : Jvm.MethodName)) ∈ lw_gd := uc_0 (List.mem_of_getElem? (i := 156) (by decide +kernel)) (by decide +kernel)
theorem qc_157 : (Jvm.Cond.selects "LineAssembler$Names" ({ cls := "LineAssembler$Names", name := "put", desc := "(I)V" } : Jvm.MethodName) ({ cls := "LineAssembler$Names", name := "put", desc := "(I)V" } : Jvm.MethodName)) ∈ lw_gd := uc_0 (List.mem_of_getElem? (i := 157) (by decide +kernel)) (by decide +kernel)
theorem qc_158 : (Jvm.Cond.code ({ cls := "LineAssembler$Names", name := "put", desc := "(I)V" } : Jvm.MethodName) prog_7_method_2_code (2 : Nat) (Option.none : Option Jvm.ClassFile.FieldType)) ∈ lw_gd := uc_0 (List.mem_of_getElem? (i := 158) (by decide +kernel)) (by decide +kernel)
theorem qc_159 : (Jvm.Cond.methodLink "LineAssembler$Names" (141 : Nat) ({ cls := "LineAssembler$Names", name := "finish", desc := "()I" } : Jvm.MethodName)) ∈ lw_gd := uc_0 (List.mem_of_getElem? (i := 159) (by decide +kernel)) (by decide +kernel)
theorem qc_160 : (Jvm.Cond.instanceMethod ({ cls := "LineAssembler$Names", name := "finish", desc := "()I" } : Jvm.MethodName)) ∈ lw_gd := uc_0 (List.mem_of_getElem? (i := 160) (by decide +kernel)) (by decide +kernel)
theorem qc_161 : (Jvm.Cond.selects "LineAssembler$Names" ({ cls := "LineAssembler$Names", name := "finish", desc := "()I" } : Jvm.MethodName) ({ cls := "LineAssembler$Names", name := "finish", desc := "()I" } : Jvm.MethodName)) ∈ lw_gd := uc_0 (List.mem_of_getElem? (i := 161) (by decide +kernel)) (by decide +kernel)
theorem qc_162 : (Jvm.Cond.code ({ cls := "LineAssembler$Names", name := "finish", desc := "()I" } : Jvm.MethodName) prog_7_method_3_code (4 : Nat) (Option.some Jvm.ClassFile.FieldType.int)) ∈ lw_gd := uc_0 (List.mem_of_getElem? (i := 162) (by decide +kernel)) (by decide +kernel)
theorem qc_163 : (Jvm.Cond.methodLink "LineAssembler$Names" (98 : Nat) ({ cls := "LineAssembler$Names", name := "isPut", desc := "(I)Z" } : Jvm.MethodName)) ∈ lw_gd := uc_0 (List.mem_of_getElem? (i := 163) (by decide +kernel)) (by decide +kernel)
theorem qc_165 : (Jvm.Cond.instanceMethod ({ cls := "LineAssembler$Names", name := "isPut", desc := "(I)Z" } : Jvm.MethodName)) ∈ lw_gd := uc_0 (List.mem_of_getElem? (i := 165) (by decide +kernel)) (by decide +kernel)
theorem qc_166 : (Jvm.Cond.code ({ cls := "LineAssembler$Names", name := "isPut", desc := "(I)Z" } : Jvm.MethodName) prog_7_method_9_code (5 : Nat) (Option.some Jvm.ClassFile.FieldType.boolean)) ∈ lw_gd := uc_0 (List.mem_of_getElem? (i := 166) (by decide +kernel)) (by decide +kernel)
theorem qc_167 : (Jvm.Cond.methodLink "LineAssembler$Names" (102 : Nat) ({ cls := "LineAssembler$Row", name := "get", desc := "(I)I" } : Jvm.MethodName)) ∈ lw_gd := uc_0 (List.mem_of_getElem? (i := 167) (by decide +kernel)) (by decide +kernel)
theorem qc_168 : (Jvm.Cond.instanceMethod ({ cls := "LineAssembler$Row", name := "get", desc := "(I)I" } : Jvm.MethodName)) ∈ lw_gd := uc_0 (List.mem_of_getElem? (i := 168) (by decide +kernel)) (by decide +kernel)
theorem qc_169 : (Jvm.Cond.selects "LineAssembler$Row" ({ cls := "LineAssembler$Row", name := "get", desc := "(I)I" } : Jvm.MethodName) ({ cls := "LineAssembler$Row", name := "get", desc := "(I)I" } : Jvm.MethodName)) ∈ lw_gd := uc_0 (List.mem_of_getElem? (i := 169) (by decide +kernel)) (by decide +kernel)
theorem qc_170 : (Jvm.Cond.code ({ cls := "LineAssembler$Row", name := "get", desc := "(I)I" } : Jvm.MethodName) prog_11_method_3_code (2 : Nat) (Option.some Jvm.ClassFile.FieldType.int)) ∈ lw_gd := uc_0 (List.mem_of_getElem? (i := 170) (by decide +kernel)) (by decide +kernel)
theorem qc_171 : (Jvm.Cond.methodLink "LineAssembler$Names" (117 : Nat) ({ cls := "LineAssembler$Names", name := "lengthOf", desc := "(I)I" } : Jvm.MethodName)) ∈ lw_gd := uc_0 (List.mem_of_getElem? (i := 171) (by decide +kernel)) (by decide +kernel)
theorem qc_172 : (Jvm.Cond.instanceMethod ({ cls := "LineAssembler$Names", name := "lengthOf", desc := "(I)I" } : Jvm.MethodName)) ∈ lw_gd := uc_0 (List.mem_of_getElem? (i := 172) (by decide +kernel)) (by decide +kernel)
theorem qc_173 : (Jvm.Cond.selects "LineAssembler$Names" ({ cls := "LineAssembler$Names", name := "lengthOf", desc := "(I)I" } : Jvm.MethodName) ({ cls := "LineAssembler$Names", name := "lengthOf", desc := "(I)I" } : Jvm.MethodName)) ∈ lw_gd := uc_0 (List.mem_of_getElem? (i := 173) (by decide +kernel)) (by decide +kernel)
theorem qc_174 : (Jvm.Cond.code ({ cls := "LineAssembler$Names", name := "lengthOf", desc := "(I)I" } : Jvm.MethodName) prog_7_method_7_code (2 : Nat) (Option.some Jvm.ClassFile.FieldType.int)) ∈ lw_gd := uc_0 (List.mem_of_getElem? (i := 174) (by decide +kernel)) (by decide +kernel)
theorem qc_175 : (Jvm.Cond.methodLink "LineAssembler$Names" (120 : Nat) ({ cls := "LineAssembler$Names", name := "letterOf", desc := "(II)I" } : Jvm.MethodName)) ∈ lw_gd := uc_0 (List.mem_of_getElem? (i := 175) (by decide +kernel)) (by decide +kernel)
theorem qc_176 : (Jvm.Cond.instanceMethod ({ cls := "LineAssembler$Names", name := "letterOf", desc := "(II)I" } : Jvm.MethodName)) ∈ lw_gd := uc_0 (List.mem_of_getElem? (i := 176) (by decide +kernel)) (by decide +kernel)
theorem qc_177 : (Jvm.Cond.selects "LineAssembler$Names" ({ cls := "LineAssembler$Names", name := "letterOf", desc := "(II)I" } : Jvm.MethodName) ({ cls := "LineAssembler$Names", name := "letterOf", desc := "(II)I" } : Jvm.MethodName)) ∈ lw_gd := uc_0 (List.mem_of_getElem? (i := 177) (by decide +kernel)) (by decide +kernel)
theorem qc_178 : (Jvm.Cond.code ({ cls := "LineAssembler$Names", name := "letterOf", desc := "(II)I" } : Jvm.MethodName) prog_7_method_8_code (3 : Nat) (Option.some Jvm.ClassFile.FieldType.int)) ∈ lw_gd := uc_0 (List.mem_of_getElem? (i := 178) (by decide +kernel)) (by decide +kernel)
theorem qc_179 : (Jvm.Cond.methodLink "LineAssembler$Names" (106 : Nat) ({ cls := "LineAssembler$Row", name := "cut", desc := "(I)V" } : Jvm.MethodName)) ∈ lw_gd := uc_0 (List.mem_of_getElem? (i := 179) (by decide +kernel)) (by decide +kernel)
theorem qc_180 : (Jvm.Cond.instanceMethod ({ cls := "LineAssembler$Row", name := "cut", desc := "(I)V" } : Jvm.MethodName)) ∈ lw_gd := uc_0 (List.mem_of_getElem? (i := 180) (by decide +kernel)) (by decide +kernel)
theorem qc_181 : (Jvm.Cond.selects "LineAssembler$Row" ({ cls := "LineAssembler$Row", name := "cut", desc := "(I)V" } : Jvm.MethodName) ({ cls := "LineAssembler$Row", name := "cut", desc := "(I)V" } : Jvm.MethodName)) ∈ lw_gd := uc_0 (List.mem_of_getElem? (i := 181) (by decide +kernel)) (by decide +kernel)
theorem qc_182 : (Jvm.Cond.code ({ cls := "LineAssembler$Row", name := "cut", desc := "(I)V" } : Jvm.MethodName) prog_11_method_5_code (2 : Nat) (Option.none : Option Jvm.ClassFile.FieldType)) ∈ lw_gd := uc_0 (List.mem_of_getElem? (i := 182) (by decide +kernel)) (by decide +kernel)
theorem qc_197 : (Jvm.Cond.methodLink "LineAssembler$Names" (167 : Nat) ({ cls := "LineAssembler$Names", name := "finishRegister", desc := "(I)V" } : Jvm.MethodName)) ∈ lw_gd := uc_0 (List.mem_of_getElem? (i := 197) (by decide +kernel)) (by decide +kernel)
theorem qc_199 : (Jvm.Cond.instanceMethod ({ cls := "LineAssembler$Names", name := "finishRegister", desc := "(I)V" } : Jvm.MethodName)) ∈ lw_gd := uc_0 (List.mem_of_getElem? (i := 199) (by decide +kernel)) (by decide +kernel)
theorem qc_200 : (Jvm.Cond.code ({ cls := "LineAssembler$Names", name := "finishRegister", desc := "(I)V" } : Jvm.MethodName) prog_7_method_16_code (2 : Nat) (Option.none : Option Jvm.ClassFile.FieldType)) ∈ lw_gd := uc_0 (List.mem_of_getElem? (i := 200) (by decide +kernel)) (by decide +kernel)
theorem qc_215 : (Jvm.Cond.fieldLink "LineAssembler$Names" (10 : Nat) "LineAssembler$Names" "sorts" "LLineAssembler$Row;") ∈ lw_gd := uc_0 (List.mem_of_getElem? (i := 215) (by decide +kernel)) (by decide +kernel)
theorem qc_217 : (Jvm.Cond.fieldLink "LineAssembler$Names" (16 : Nat) "LineAssembler$Names" "values" "LLineAssembler$Row;") ∈ lw_gd := uc_0 (List.mem_of_getElem? (i := 217) (by decide +kernel)) (by decide +kernel)
theorem qc_219 : (Jvm.Cond.fieldLink "LineAssembler$Names" (19 : Nat) "LineAssembler$Names" "operations" "LLineAssembler$Row;") ∈ lw_gd := uc_0 (List.mem_of_getElem? (i := 219) (by decide +kernel)) (by decide +kernel)
theorem qc_221 : (Jvm.Cond.fieldLink "LineAssembler$Names" (22 : Nat) "LineAssembler$Names" "registers" "LLineAssembler$Row;") ∈ lw_gd := uc_0 (List.mem_of_getElem? (i := 221) (by decide +kernel)) (by decide +kernel)
theorem qc_223 : (Jvm.Cond.fieldLink "LineAssembler$Names" (25 : Nat) "LineAssembler$Names" "orders" "LLineAssembler$Row;") ∈ lw_gd := uc_0 (List.mem_of_getElem? (i := 223) (by decide +kernel)) (by decide +kernel)
theorem qc_231 : (Jvm.Cond.fieldLink "LineAssembler$Names" (28 : Nat) "LineAssembler$Names" "heads" "[I") ∈ lw_gd := uc_0 (List.mem_of_getElem? (i := 231) (by decide +kernel)) (by decide +kernel)
theorem qc_232 : (Jvm.Cond.fieldLink "LineAssembler$Names" (32 : Nat) "LineAssembler$Names" "older" "LLineAssembler$Row;") ∈ lw_gd := uc_0 (List.mem_of_getElem? (i := 232) (by decide +kernel)) (by decide +kernel)
theorem qc_233 : (Jvm.Cond.fieldLink "LineAssembler$Names" (35 : Nat) "LineAssembler$Names" "slots" "LLineAssembler$Row;") ∈ lw_gd := uc_0 (List.mem_of_getElem? (i := 233) (by decide +kernel)) (by decide +kernel)
theorem qc_234 : (Jvm.Cond.fieldLink "LineAssembler$Names" (38 : Nat) "LineAssembler$Names" "starts" "LLineAssembler$Row;") ∈ lw_gd := uc_0 (List.mem_of_getElem? (i := 234) (by decide +kernel)) (by decide +kernel)
theorem qc_235 : (Jvm.Cond.fieldLink "LineAssembler$Names" (41 : Nat) "LineAssembler$Names" "pool" "LLineAssembler$Row;") ∈ lw_gd := uc_0 (List.mem_of_getElem? (i := 235) (by decide +kernel)) (by decide +kernel)
theorem qc_236 : (Jvm.Cond.fieldLink "LineAssembler$Names" (95 : Nat) "LineAssembler$Names" "kept" "I") ∈ lw_gd := uc_0 (List.mem_of_getElem? (i := 236) (by decide +kernel)) (by decide +kernel)
theorem qc_237 : (Jvm.Cond.fieldLink "LineAssembler$Names" (44 : Nat) "LineAssembler$Names" "hash" "I") ∈ lw_gd := uc_0 (List.mem_of_getElem? (i := 237) (by decide +kernel)) (by decide +kernel)
theorem qc_607 : (Jvm.Cond.methodLink "LineAssembler$Names" (109 : Nat) ({ cls := "LineAssembler$Row", name := "fill", desc := "(III)V" } : Jvm.MethodName)) ∈ lw_gd := uc_2 (List.mem_of_getElem? (i := 127) (by decide +kernel)) (by decide +kernel)
theorem qc_608 : (Jvm.Cond.instanceMethod ({ cls := "LineAssembler$Row", name := "fill", desc := "(III)V" } : Jvm.MethodName)) ∈ lw_gd := uc_2 (List.mem_of_getElem? (i := 128) (by decide +kernel)) (by decide +kernel)
theorem qc_609 : (Jvm.Cond.selects "LineAssembler$Row" ({ cls := "LineAssembler$Row", name := "fill", desc := "(III)V" } : Jvm.MethodName) ({ cls := "LineAssembler$Row", name := "fill", desc := "(III)V" } : Jvm.MethodName)) ∈ lw_gd := uc_2 (List.mem_of_getElem? (i := 129) (by decide +kernel)) (by decide +kernel)
theorem qc_610 : (Jvm.Cond.code ({ cls := "LineAssembler$Row", name := "fill", desc := "(III)V" } : Jvm.MethodName) prog_11_method_7_code (4 : Nat) (Option.none : Option Jvm.ClassFile.FieldType)) ∈ lw_gd := uc_2 (List.mem_of_getElem? (i := 130) (by decide +kernel)) (by decide +kernel)
theorem qc_1111 : (Jvm.Cond.methodLink "LineAssembler$Names" (113 : Nat) ({ cls := "LineAssembler$Row", name := "set", desc := "(II)V" } : Jvm.MethodName)) ∈ lw_gd := uc_4 (List.mem_of_getElem? (i := 151) (by decide +kernel)) (by decide +kernel)
theorem qc_1112 : (Jvm.Cond.instanceMethod ({ cls := "LineAssembler$Row", name := "set", desc := "(II)V" } : Jvm.MethodName)) ∈ lw_gd := uc_4 (List.mem_of_getElem? (i := 152) (by decide +kernel)) (by decide +kernel)
theorem qc_1113 : (Jvm.Cond.selects "LineAssembler$Row" ({ cls := "LineAssembler$Row", name := "set", desc := "(II)V" } : Jvm.MethodName) ({ cls := "LineAssembler$Row", name := "set", desc := "(II)V" } : Jvm.MethodName)) ∈ lw_gd := uc_4 (List.mem_of_getElem? (i := 153) (by decide +kernel)) (by decide +kernel)
theorem qc_1114 : (Jvm.Cond.code ({ cls := "LineAssembler$Row", name := "set", desc := "(II)V" } : Jvm.MethodName) prog_11_method_4_code (3 : Nat) (Option.none : Option Jvm.ClassFile.FieldType)) ∈ lw_gd := uc_4 (List.mem_of_getElem? (i := 154) (by decide +kernel)) (by decide +kernel)
abbrev cC_Nam_put : ByteArray := prog_7_method_2_code
def yC_Nam_put : MethodName := ⟨R_Nam, "put", "(I)V"⟩
theorem dC_Nam_put_0 : decode cC_Nam_put 0 = .ok (.aload_n 0, 1) := by decide +kernel
theorem dC_Nam_put_1 : decode cC_Nam_put 1 = .ok (.getfield 41, 3) := by decide +kernel
theorem dC_Nam_put_4 : decode cC_Nam_put 4 = .ok (.iload_n 1, 1) := by decide +kernel
theorem dC_Nam_put_5 : decode cC_Nam_put 5 = .ok (.invokevirtual 48, 3) := by decide +kernel
theorem dC_Nam_put_8 : decode cC_Nam_put 8 = .ok (.aload_n 0, 1) := by decide +kernel
theorem dC_Nam_put_9 : decode cC_Nam_put 9 = .ok (.aload_n 0, 1) := by decide +kernel
theorem dC_Nam_put_10 : decode cC_Nam_put 10 = .ok (.getfield 44, 3) := by decide +kernel
theorem dC_Nam_put_13 : decode cC_Nam_put 13 = .ok (.bipush (31), 2) := by decide +kernel
theorem dC_Nam_put_15 : decode cC_Nam_put 15 = .ok (.imul, 1) := by decide +kernel
theorem dC_Nam_put_16 : decode cC_Nam_put 16 = .ok (.iload_n 1, 1) := by decide +kernel
theorem dC_Nam_put_17 : decode cC_Nam_put 17 = .ok (.iadd, 1) := by decide +kernel
theorem dC_Nam_put_18 : decode cC_Nam_put 18 = .ok (.putfield 44, 3) := by decide +kernel
theorem dC_Nam_put_21 : decode cC_Nam_put 21 = .ok (.return_, 1) := by decide +kernel
abbrev cC_Nam_lengthOf : ByteArray := prog_7_method_7_code
def yC_Nam_lengthOf : MethodName := ⟨R_Nam, "lengthOf", "(I)I"⟩
theorem dC_Nam_lengthOf_0 : decode cC_Nam_lengthOf 0 = .ok (.iload_n 1, 1) := by decide +kernel
theorem dC_Nam_lengthOf_1 : decode cC_Nam_lengthOf 1 = .ok (.ifCond .lt (36), 3) := by decide +kernel
theorem dC_Nam_lengthOf_4 : decode cC_Nam_lengthOf 4 = .ok (.iload_n 1, 1) := by decide +kernel
theorem dC_Nam_lengthOf_5 : decode cC_Nam_lengthOf 5 = .ok (.aload_n 0, 1) := by decide +kernel
theorem dC_Nam_lengthOf_6 : decode cC_Nam_lengthOf 6 = .ok (.getfield 10, 3) := by decide +kernel
theorem dC_Nam_lengthOf_9 : decode cC_Nam_lengthOf 9 = .ok (.getfield 92, 3) := by decide +kernel
theorem dC_Nam_lengthOf_12 : decode cC_Nam_lengthOf 12 = .ok (.if_icmp .ge (25), 3) := by decide +kernel
theorem dC_Nam_lengthOf_15 : decode cC_Nam_lengthOf 15 = .ok (.aload_n 0, 1) := by decide +kernel
theorem dC_Nam_lengthOf_16 : decode cC_Nam_lengthOf 16 = .ok (.getfield 38, 3) := by decide +kernel
theorem dC_Nam_lengthOf_19 : decode cC_Nam_lengthOf 19 = .ok (.iload_n 1, 1) := by decide +kernel
theorem dC_Nam_lengthOf_20 : decode cC_Nam_lengthOf 20 = .ok (.iconst (1), 1) := by decide +kernel
theorem dC_Nam_lengthOf_21 : decode cC_Nam_lengthOf 21 = .ok (.iadd, 1) := by decide +kernel
theorem dC_Nam_lengthOf_22 : decode cC_Nam_lengthOf 22 = .ok (.invokevirtual 102, 3) := by decide +kernel
theorem dC_Nam_lengthOf_25 : decode cC_Nam_lengthOf 25 = .ok (.aload_n 0, 1) := by decide +kernel
theorem dC_Nam_lengthOf_26 : decode cC_Nam_lengthOf 26 = .ok (.getfield 38, 3) := by decide +kernel
theorem dC_Nam_lengthOf_29 : decode cC_Nam_lengthOf 29 = .ok (.iload_n 1, 1) := by decide +kernel
theorem dC_Nam_lengthOf_30 : decode cC_Nam_lengthOf 30 = .ok (.invokevirtual 102, 3) := by decide +kernel
theorem dC_Nam_lengthOf_33 : decode cC_Nam_lengthOf 33 = .ok (.isub, 1) := by decide +kernel
theorem dC_Nam_lengthOf_34 : decode cC_Nam_lengthOf 34 = .ok (.goto (4), 3) := by decide +kernel
theorem dC_Nam_lengthOf_37 : decode cC_Nam_lengthOf 37 = .ok (.iconst (0), 1) := by decide +kernel
theorem dC_Nam_lengthOf_38 : decode cC_Nam_lengthOf 38 = .ok (.ireturn, 1) := by decide +kernel
abbrev cC_Nam_letterOf : ByteArray := prog_7_method_8_code
def yC_Nam_letterOf : MethodName := ⟨R_Nam, "letterOf", "(II)I"⟩
theorem dC_Nam_letterOf_0 : decode cC_Nam_letterOf 0 = .ok (.aload_n 0, 1) := by decide +kernel
theorem dC_Nam_letterOf_1 : decode cC_Nam_letterOf 1 = .ok (.getfield 41, 3) := by decide +kernel
theorem dC_Nam_letterOf_4 : decode cC_Nam_letterOf 4 = .ok (.aload_n 0, 1) := by decide +kernel
theorem dC_Nam_letterOf_5 : decode cC_Nam_letterOf 5 = .ok (.getfield 38, 3) := by decide +kernel
theorem dC_Nam_letterOf_8 : decode cC_Nam_letterOf 8 = .ok (.iload_n 1, 1) := by decide +kernel
theorem dC_Nam_letterOf_9 : decode cC_Nam_letterOf 9 = .ok (.invokevirtual 102, 3) := by decide +kernel
theorem dC_Nam_letterOf_12 : decode cC_Nam_letterOf 12 = .ok (.iload_n 2, 1) := by decide +kernel
theorem dC_Nam_letterOf_13 : decode cC_Nam_letterOf 13 = .ok (.iadd, 1) := by decide +kernel
theorem dC_Nam_letterOf_14 : decode cC_Nam_letterOf 14 = .ok (.invokevirtual 102, 3) := by decide +kernel
theorem dC_Nam_letterOf_17 : decode cC_Nam_letterOf 17 = .ok (.ireturn, 1) := by decide +kernel
abbrev cC_Nam_isFree : ByteArray := prog_7_method_5_code
def yC_Nam_isFree : MethodName := ⟨R_Nam, "isFree", "(I)Z"⟩
theorem dC_Nam_isFree_0 : decode cC_Nam_isFree 0 = .ok (.aload_n 0, 1) := by decide +kernel
theorem dC_Nam_isFree_1 : decode cC_Nam_isFree 1 = .ok (.getfield 10, 3) := by decide +kernel
theorem dC_Nam_isFree_4 : decode cC_Nam_isFree 4 = .ok (.iload_n 1, 1) := by decide +kernel
theorem dC_Nam_isFree_5 : decode cC_Nam_isFree 5 = .ok (.invokevirtual 102, 3) := by decide +kernel
theorem dC_Nam_isFree_8 : decode cC_Nam_isFree 8 = .ok (.ifCond .ne (18), 3) := by decide +kernel
theorem dC_Nam_isFree_11 : decode cC_Nam_isFree 11 = .ok (.aload_n 0, 1) := by decide +kernel
theorem dC_Nam_isFree_12 : decode cC_Nam_isFree 12 = .ok (.getfield 22, 3) := by decide +kernel
theorem dC_Nam_isFree_15 : decode cC_Nam_isFree 15 = .ok (.iload_n 1, 1) := by decide +kernel
theorem dC_Nam_isFree_16 : decode cC_Nam_isFree 16 = .ok (.invokevirtual 102, 3) := by decide +kernel
theorem dC_Nam_isFree_19 : decode cC_Nam_isFree 19 = .ok (.ifCond .ne (7), 3) := by decide +kernel
theorem dC_Nam_isFree_22 : decode cC_Nam_isFree 22 = .ok (.iconst (1), 1) := by decide +kernel
theorem dC_Nam_isFree_23 : decode cC_Nam_isFree 23 = .ok (.goto (4), 3) := by decide +kernel
theorem dC_Nam_isFree_26 : decode cC_Nam_isFree 26 = .ok (.iconst (0), 1) := by decide +kernel
theorem dC_Nam_isFree_27 : decode cC_Nam_isFree 27 = .ok (.ireturn, 1) := by decide +kernel
abbrev cC_Nam_define : ByteArray := prog_7_method_6_code
def yC_Nam_define : MethodName := ⟨R_Nam, "define", "(III)V"⟩
theorem dC_Nam_define_0 : decode cC_Nam_define 0 = .ok (.aload_n 0, 1) := by decide +kernel
theorem dC_Nam_define_1 : decode cC_Nam_define 1 = .ok (.getfield 10, 3) := by decide +kernel
theorem dC_Nam_define_4 : decode cC_Nam_define 4 = .ok (.iload_n 1, 1) := by decide +kernel
theorem dC_Nam_define_5 : decode cC_Nam_define 5 = .ok (.iload_n 2, 1) := by decide +kernel
theorem dC_Nam_define_6 : decode cC_Nam_define 6 = .ok (.invokevirtual 113, 3) := by decide +kernel
theorem dC_Nam_define_9 : decode cC_Nam_define 9 = .ok (.aload_n 0, 1) := by decide +kernel
theorem dC_Nam_define_10 : decode cC_Nam_define 10 = .ok (.getfield 16, 3) := by decide +kernel
theorem dC_Nam_define_13 : decode cC_Nam_define 13 = .ok (.iload_n 1, 1) := by decide +kernel
theorem dC_Nam_define_14 : decode cC_Nam_define 14 = .ok (.iload_n 3, 1) := by decide +kernel
theorem dC_Nam_define_15 : decode cC_Nam_define 15 = .ok (.invokevirtual 113, 3) := by decide +kernel
theorem dC_Nam_define_18 : decode cC_Nam_define 18 = .ok (.return_, 1) := by decide +kernel
abbrev cC_Nam_isPut : ByteArray := prog_7_method_9_code
def yC_Nam_isPut : MethodName := ⟨R_Nam, "isPut", "(I)Z"⟩
theorem dC_Nam_isPut_0 : decode cC_Nam_isPut 0 = .ok (.aload_n 0, 1) := by decide +kernel
theorem dC_Nam_isPut_1 : decode cC_Nam_isPut 1 = .ok (.getfield 38, 3) := by decide +kernel
theorem dC_Nam_isPut_4 : decode cC_Nam_isPut 4 = .ok (.aload_n 0, 1) := by decide +kernel
theorem dC_Nam_isPut_5 : decode cC_Nam_isPut 5 = .ok (.getfield 10, 3) := by decide +kernel
theorem dC_Nam_isPut_8 : decode cC_Nam_isPut 8 = .ok (.getfield 92, 3) := by decide +kernel
theorem dC_Nam_isPut_11 : decode cC_Nam_isPut 11 = .ok (.invokevirtual 102, 3) := by decide +kernel
theorem dC_Nam_isPut_14 : decode cC_Nam_isPut 14 = .ok (.istore_n 2, 1) := by decide +kernel
theorem dC_Nam_isPut_15 : decode cC_Nam_isPut 15 = .ok (.aload_n 0, 1) := by decide +kernel
theorem dC_Nam_isPut_16 : decode cC_Nam_isPut 16 = .ok (.iload_n 1, 1) := by decide +kernel
theorem dC_Nam_isPut_17 : decode cC_Nam_isPut 17 = .ok (.invokevirtual 117, 3) := by decide +kernel
theorem dC_Nam_isPut_20 : decode cC_Nam_isPut 20 = .ok (.istore_n 3, 1) := by decide +kernel
theorem dC_Nam_isPut_21 : decode cC_Nam_isPut 21 = .ok (.iload_n 3, 1) := by decide +kernel
theorem dC_Nam_isPut_22 : decode cC_Nam_isPut 22 = .ok (.aload_n 0, 1) := by decide +kernel
theorem dC_Nam_isPut_23 : decode cC_Nam_isPut 23 = .ok (.getfield 41, 3) := by decide +kernel
theorem dC_Nam_isPut_26 : decode cC_Nam_isPut 26 = .ok (.getfield 92, 3) := by decide +kernel
theorem dC_Nam_isPut_29 : decode cC_Nam_isPut 29 = .ok (.iload_n 2, 1) := by decide +kernel
theorem dC_Nam_isPut_30 : decode cC_Nam_isPut 30 = .ok (.isub, 1) := by decide +kernel
theorem dC_Nam_isPut_31 : decode cC_Nam_isPut 31 = .ok (.if_icmp .eq (5), 3) := by decide +kernel
theorem dC_Nam_isPut_34 : decode cC_Nam_isPut 34 = .ok (.iconst (0), 1) := by decide +kernel
theorem dC_Nam_isPut_35 : decode cC_Nam_isPut 35 = .ok (.ireturn, 1) := by decide +kernel
theorem dC_Nam_isPut_36 : decode cC_Nam_isPut 36 = .ok (.iconst (0), 1) := by decide +kernel
theorem dC_Nam_isPut_37 : decode cC_Nam_isPut 37 = .ok (.istore 4, 2) := by decide +kernel
theorem dC_Nam_isPut_39 : decode cC_Nam_isPut 39 = .ok (.iload 4, 2) := by decide +kernel
theorem dC_Nam_isPut_41 : decode cC_Nam_isPut 41 = .ok (.iload_n 3, 1) := by decide +kernel
theorem dC_Nam_isPut_42 : decode cC_Nam_isPut 42 = .ok (.if_icmp .ge (32), 3) := by decide +kernel
theorem dC_Nam_isPut_45 : decode cC_Nam_isPut 45 = .ok (.aload_n 0, 1) := by decide +kernel
theorem dC_Nam_isPut_46 : decode cC_Nam_isPut 46 = .ok (.iload_n 1, 1) := by decide +kernel
theorem dC_Nam_isPut_47 : decode cC_Nam_isPut 47 = .ok (.iload 4, 2) := by decide +kernel
theorem dC_Nam_isPut_49 : decode cC_Nam_isPut 49 = .ok (.invokevirtual 120, 3) := by decide +kernel
theorem dC_Nam_isPut_52 : decode cC_Nam_isPut 52 = .ok (.aload_n 0, 1) := by decide +kernel
theorem dC_Nam_isPut_53 : decode cC_Nam_isPut 53 = .ok (.getfield 41, 3) := by decide +kernel
theorem dC_Nam_isPut_56 : decode cC_Nam_isPut 56 = .ok (.iload_n 2, 1) := by decide +kernel
theorem dC_Nam_isPut_57 : decode cC_Nam_isPut 57 = .ok (.iload 4, 2) := by decide +kernel
theorem dC_Nam_isPut_59 : decode cC_Nam_isPut 59 = .ok (.iadd, 1) := by decide +kernel
theorem dC_Nam_isPut_60 : decode cC_Nam_isPut 60 = .ok (.invokevirtual 102, 3) := by decide +kernel
theorem dC_Nam_isPut_63 : decode cC_Nam_isPut 63 = .ok (.if_icmp .eq (5), 3) := by decide +kernel
theorem dC_Nam_isPut_66 : decode cC_Nam_isPut 66 = .ok (.iconst (0), 1) := by decide +kernel
theorem dC_Nam_isPut_67 : decode cC_Nam_isPut 67 = .ok (.ireturn, 1) := by decide +kernel
theorem dC_Nam_isPut_68 : decode cC_Nam_isPut 68 = .ok (.iinc 4 (1), 3) := by decide +kernel
theorem dC_Nam_isPut_71 : decode cC_Nam_isPut 71 = .ok (.goto (-32), 3) := by decide +kernel
theorem dC_Nam_isPut_74 : decode cC_Nam_isPut 74 = .ok (.iconst (1), 1) := by decide +kernel
theorem dC_Nam_isPut_75 : decode cC_Nam_isPut 75 = .ok (.ireturn, 1) := by decide +kernel
abbrev cC_Nam_finish : ByteArray := prog_7_method_3_code
def yC_Nam_finish : MethodName := ⟨R_Nam, "finish", "()I"⟩
theorem dC_Nam_finish_0 : decode cC_Nam_finish 0 = .ok (.aload_n 0, 1) := by decide +kernel
theorem dC_Nam_finish_1 : decode cC_Nam_finish 1 = .ok (.getfield 44, 3) := by decide +kernel
theorem dC_Nam_finish_4 : decode cC_Nam_finish 4 = .ok (.aload_n 0, 1) := by decide +kernel
theorem dC_Nam_finish_5 : decode cC_Nam_finish 5 = .ok (.getfield 44, 3) := by decide +kernel
theorem dC_Nam_finish_8 : decode cC_Nam_finish 8 = .ok (.bipush (9), 2) := by decide +kernel
theorem dC_Nam_finish_10 : decode cC_Nam_finish 10 = .ok (.iushr, 1) := by decide +kernel
theorem dC_Nam_finish_11 : decode cC_Nam_finish 11 = .ok (.ixor, 1) := by decide +kernel
theorem dC_Nam_finish_12 : decode cC_Nam_finish 12 = .ok (.sipush (511), 3) := by decide +kernel
theorem dC_Nam_finish_15 : decode cC_Nam_finish 15 = .ok (.iand, 1) := by decide +kernel
theorem dC_Nam_finish_16 : decode cC_Nam_finish 16 = .ok (.istore_n 1, 1) := by decide +kernel
theorem dC_Nam_finish_17 : decode cC_Nam_finish 17 = .ok (.aload_n 0, 1) := by decide +kernel
theorem dC_Nam_finish_18 : decode cC_Nam_finish 18 = .ok (.iconst (0), 1) := by decide +kernel
theorem dC_Nam_finish_19 : decode cC_Nam_finish 19 = .ok (.putfield 44, 3) := by decide +kernel
theorem dC_Nam_finish_22 : decode cC_Nam_finish 22 = .ok (.aload_n 0, 1) := by decide +kernel
theorem dC_Nam_finish_23 : decode cC_Nam_finish 23 = .ok (.getfield 28, 3) := by decide +kernel
theorem dC_Nam_finish_26 : decode cC_Nam_finish 26 = .ok (.iload_n 1, 1) := by decide +kernel
theorem dC_Nam_finish_27 : decode cC_Nam_finish 27 = .ok (.iaload, 1) := by decide +kernel
theorem dC_Nam_finish_28 : decode cC_Nam_finish 28 = .ok (.iconst (1), 1) := by decide +kernel
theorem dC_Nam_finish_29 : decode cC_Nam_finish 29 = .ok (.isub, 1) := by decide +kernel
theorem dC_Nam_finish_30 : decode cC_Nam_finish 30 = .ok (.istore_n 2, 1) := by decide +kernel
theorem dC_Nam_finish_31 : decode cC_Nam_finish 31 = .ok (.aload_n 0, 1) := by decide +kernel
theorem dC_Nam_finish_32 : decode cC_Nam_finish 32 = .ok (.getfield 10, 3) := by decide +kernel
theorem dC_Nam_finish_35 : decode cC_Nam_finish 35 = .ok (.getfield 92, 3) := by decide +kernel
theorem dC_Nam_finish_38 : decode cC_Nam_finish 38 = .ok (.istore_n 3, 1) := by decide +kernel
theorem dC_Nam_finish_39 : decode cC_Nam_finish 39 = .ok (.iload_n 3, 1) := by decide +kernel
theorem dC_Nam_finish_40 : decode cC_Nam_finish 40 = .ok (.ifCond .le (55), 3) := by decide +kernel
theorem dC_Nam_finish_43 : decode cC_Nam_finish 43 = .ok (.iload_n 2, 1) := by decide +kernel
theorem dC_Nam_finish_44 : decode cC_Nam_finish 44 = .ok (.ifCond .lt (51), 3) := by decide +kernel
theorem dC_Nam_finish_47 : decode cC_Nam_finish 47 = .ok (.aload_n 0, 1) := by decide +kernel
theorem dC_Nam_finish_48 : decode cC_Nam_finish 48 = .ok (.iload_n 2, 1) := by decide +kernel
theorem dC_Nam_finish_49 : decode cC_Nam_finish 49 = .ok (.invokevirtual 98, 3) := by decide +kernel
theorem dC_Nam_finish_52 : decode cC_Nam_finish 52 = .ok (.ifCond .eq (26), 3) := by decide +kernel
theorem dC_Nam_finish_55 : decode cC_Nam_finish 55 = .ok (.aload_n 0, 1) := by decide +kernel
theorem dC_Nam_finish_56 : decode cC_Nam_finish 56 = .ok (.getfield 41, 3) := by decide +kernel
theorem dC_Nam_finish_59 : decode cC_Nam_finish 59 = .ok (.aload_n 0, 1) := by decide +kernel
theorem dC_Nam_finish_60 : decode cC_Nam_finish 60 = .ok (.getfield 38, 3) := by decide +kernel
theorem dC_Nam_finish_63 : decode cC_Nam_finish 63 = .ok (.aload_n 0, 1) := by decide +kernel
theorem dC_Nam_finish_64 : decode cC_Nam_finish 64 = .ok (.getfield 10, 3) := by decide +kernel
theorem dC_Nam_finish_67 : decode cC_Nam_finish 67 = .ok (.getfield 92, 3) := by decide +kernel
theorem dC_Nam_finish_70 : decode cC_Nam_finish 70 = .ok (.invokevirtual 102, 3) := by decide +kernel
theorem dC_Nam_finish_73 : decode cC_Nam_finish 73 = .ok (.invokevirtual 106, 3) := by decide +kernel
theorem dC_Nam_finish_76 : decode cC_Nam_finish 76 = .ok (.iload_n 2, 1) := by decide +kernel
theorem dC_Nam_finish_77 : decode cC_Nam_finish 77 = .ok (.ireturn, 1) := by decide +kernel
theorem dC_Nam_finish_78 : decode cC_Nam_finish 78 = .ok (.aload_n 0, 1) := by decide +kernel
theorem dC_Nam_finish_79 : decode cC_Nam_finish 79 = .ok (.getfield 32, 3) := by decide +kernel
theorem dC_Nam_finish_82 : decode cC_Nam_finish 82 = .ok (.iload_n 2, 1) := by decide +kernel
theorem dC_Nam_finish_83 : decode cC_Nam_finish 83 = .ok (.invokevirtual 102, 3) := by decide +kernel
theorem dC_Nam_finish_86 : decode cC_Nam_finish 86 = .ok (.iconst (1), 1) := by decide +kernel
theorem dC_Nam_finish_87 : decode cC_Nam_finish 87 = .ok (.isub, 1) := by decide +kernel
theorem dC_Nam_finish_88 : decode cC_Nam_finish 88 = .ok (.istore_n 2, 1) := by decide +kernel
theorem dC_Nam_finish_89 : decode cC_Nam_finish 89 = .ok (.iinc 3 (-1), 3) := by decide +kernel
theorem dC_Nam_finish_92 : decode cC_Nam_finish 92 = .ok (.goto (-53), 3) := by decide +kernel
theorem dC_Nam_finish_95 : decode cC_Nam_finish 95 = .ok (.aload_n 0, 1) := by decide +kernel
theorem dC_Nam_finish_96 : decode cC_Nam_finish 96 = .ok (.getfield 32, 3) := by decide +kernel
theorem dC_Nam_finish_99 : decode cC_Nam_finish 99 = .ok (.aload_n 0, 1) := by decide +kernel
theorem dC_Nam_finish_100 : decode cC_Nam_finish 100 = .ok (.getfield 28, 3) := by decide +kernel
theorem dC_Nam_finish_103 : decode cC_Nam_finish 103 = .ok (.iload_n 1, 1) := by decide +kernel
theorem dC_Nam_finish_104 : decode cC_Nam_finish 104 = .ok (.iaload, 1) := by decide +kernel
theorem dC_Nam_finish_105 : decode cC_Nam_finish 105 = .ok (.invokevirtual 48, 3) := by decide +kernel
theorem dC_Nam_finish_108 : decode cC_Nam_finish 108 = .ok (.aload_n 0, 1) := by decide +kernel
theorem dC_Nam_finish_109 : decode cC_Nam_finish 109 = .ok (.getfield 35, 3) := by decide +kernel
theorem dC_Nam_finish_112 : decode cC_Nam_finish 112 = .ok (.iload_n 1, 1) := by decide +kernel
theorem dC_Nam_finish_113 : decode cC_Nam_finish 113 = .ok (.invokevirtual 48, 3) := by decide +kernel
theorem dC_Nam_finish_116 : decode cC_Nam_finish 116 = .ok (.aload_n 0, 1) := by decide +kernel
theorem dC_Nam_finish_117 : decode cC_Nam_finish 117 = .ok (.getfield 38, 3) := by decide +kernel
theorem dC_Nam_finish_120 : decode cC_Nam_finish 120 = .ok (.aload_n 0, 1) := by decide +kernel
theorem dC_Nam_finish_121 : decode cC_Nam_finish 121 = .ok (.getfield 41, 3) := by decide +kernel
theorem dC_Nam_finish_124 : decode cC_Nam_finish 124 = .ok (.getfield 92, 3) := by decide +kernel
theorem dC_Nam_finish_127 : decode cC_Nam_finish 127 = .ok (.invokevirtual 48, 3) := by decide +kernel
theorem dC_Nam_finish_130 : decode cC_Nam_finish 130 = .ok (.aload_n 0, 1) := by decide +kernel
theorem dC_Nam_finish_131 : decode cC_Nam_finish 131 = .ok (.getfield 10, 3) := by decide +kernel
theorem dC_Nam_finish_134 : decode cC_Nam_finish 134 = .ok (.iconst (0), 1) := by decide +kernel
theorem dC_Nam_finish_135 : decode cC_Nam_finish 135 = .ok (.invokevirtual 48, 3) := by decide +kernel
theorem dC_Nam_finish_138 : decode cC_Nam_finish 138 = .ok (.aload_n 0, 1) := by decide +kernel
theorem dC_Nam_finish_139 : decode cC_Nam_finish 139 = .ok (.getfield 16, 3) := by decide +kernel
theorem dC_Nam_finish_142 : decode cC_Nam_finish 142 = .ok (.iconst (0), 1) := by decide +kernel
theorem dC_Nam_finish_143 : decode cC_Nam_finish 143 = .ok (.invokevirtual 48, 3) := by decide +kernel
theorem dC_Nam_finish_146 : decode cC_Nam_finish 146 = .ok (.aload_n 0, 1) := by decide +kernel
theorem dC_Nam_finish_147 : decode cC_Nam_finish 147 = .ok (.getfield 28, 3) := by decide +kernel
theorem dC_Nam_finish_150 : decode cC_Nam_finish 150 = .ok (.iload_n 1, 1) := by decide +kernel
theorem dC_Nam_finish_151 : decode cC_Nam_finish 151 = .ok (.aload_n 0, 1) := by decide +kernel
theorem dC_Nam_finish_152 : decode cC_Nam_finish 152 = .ok (.getfield 10, 3) := by decide +kernel
theorem dC_Nam_finish_155 : decode cC_Nam_finish 155 = .ok (.getfield 92, 3) := by decide +kernel
theorem dC_Nam_finish_158 : decode cC_Nam_finish 158 = .ok (.iastore, 1) := by decide +kernel
theorem dC_Nam_finish_159 : decode cC_Nam_finish 159 = .ok (.aload_n 0, 1) := by decide +kernel
theorem dC_Nam_finish_160 : decode cC_Nam_finish 160 = .ok (.getfield 10, 3) := by decide +kernel
theorem dC_Nam_finish_163 : decode cC_Nam_finish 163 = .ok (.getfield 92, 3) := by decide +kernel
theorem dC_Nam_finish_166 : decode cC_Nam_finish 166 = .ok (.iconst (1), 1) := by decide +kernel
theorem dC_Nam_finish_167 : decode cC_Nam_finish 167 = .ok (.isub, 1) := by decide +kernel
theorem dC_Nam_finish_168 : decode cC_Nam_finish 168 = .ok (.ireturn, 1) := by decide +kernel
abbrev cC_Nam_forget : ByteArray := prog_7_method_4_code
def yC_Nam_forget : MethodName := ⟨R_Nam, "forget", "()V"⟩
theorem dC_Nam_forget_0 : decode cC_Nam_forget 0 = .ok (.aload_n 0, 1) := by decide +kernel
theorem dC_Nam_forget_1 : decode cC_Nam_forget 1 = .ok (.getfield 10, 3) := by decide +kernel
theorem dC_Nam_forget_4 : decode cC_Nam_forget 4 = .ok (.getfield 92, 3) := by decide +kernel
theorem dC_Nam_forget_7 : decode cC_Nam_forget 7 = .ok (.iconst (1), 1) := by decide +kernel
theorem dC_Nam_forget_8 : decode cC_Nam_forget 8 = .ok (.isub, 1) := by decide +kernel
theorem dC_Nam_forget_9 : decode cC_Nam_forget 9 = .ok (.istore_n 1, 1) := by decide +kernel
theorem dC_Nam_forget_10 : decode cC_Nam_forget 10 = .ok (.iload_n 1, 1) := by decide +kernel
theorem dC_Nam_forget_11 : decode cC_Nam_forget 11 = .ok (.aload_n 0, 1) := by decide +kernel
theorem dC_Nam_forget_12 : decode cC_Nam_forget 12 = .ok (.getfield 95, 3) := by decide +kernel
theorem dC_Nam_forget_15 : decode cC_Nam_forget 15 = .ok (.if_icmp .lt (45), 3) := by decide +kernel
theorem dC_Nam_forget_18 : decode cC_Nam_forget 18 = .ok (.aload_n 0, 1) := by decide +kernel
theorem dC_Nam_forget_19 : decode cC_Nam_forget 19 = .ok (.getfield 35, 3) := by decide +kernel
theorem dC_Nam_forget_22 : decode cC_Nam_forget 22 = .ok (.iload_n 1, 1) := by decide +kernel
theorem dC_Nam_forget_23 : decode cC_Nam_forget 23 = .ok (.invokevirtual 102, 3) := by decide +kernel
theorem dC_Nam_forget_26 : decode cC_Nam_forget 26 = .ok (.istore_n 2, 1) := by decide +kernel
theorem dC_Nam_forget_27 : decode cC_Nam_forget 27 = .ok (.iload_n 2, 1) := by decide +kernel
theorem dC_Nam_forget_28 : decode cC_Nam_forget 28 = .ok (.ifCond .lt (26), 3) := by decide +kernel
theorem dC_Nam_forget_31 : decode cC_Nam_forget 31 = .ok (.iload_n 2, 1) := by decide +kernel
theorem dC_Nam_forget_32 : decode cC_Nam_forget 32 = .ok (.aload_n 0, 1) := by decide +kernel
theorem dC_Nam_forget_33 : decode cC_Nam_forget 33 = .ok (.getfield 28, 3) := by decide +kernel
theorem dC_Nam_forget_36 : decode cC_Nam_forget 36 = .ok (.arraylength, 1) := by decide +kernel
theorem dC_Nam_forget_37 : decode cC_Nam_forget 37 = .ok (.if_icmp .ge (17), 3) := by decide +kernel
theorem dC_Nam_forget_40 : decode cC_Nam_forget 40 = .ok (.aload_n 0, 1) := by decide +kernel
theorem dC_Nam_forget_41 : decode cC_Nam_forget 41 = .ok (.getfield 28, 3) := by decide +kernel
theorem dC_Nam_forget_44 : decode cC_Nam_forget 44 = .ok (.iload_n 2, 1) := by decide +kernel
theorem dC_Nam_forget_45 : decode cC_Nam_forget 45 = .ok (.aload_n 0, 1) := by decide +kernel
theorem dC_Nam_forget_46 : decode cC_Nam_forget 46 = .ok (.getfield 32, 3) := by decide +kernel
theorem dC_Nam_forget_49 : decode cC_Nam_forget 49 = .ok (.iload_n 1, 1) := by decide +kernel
theorem dC_Nam_forget_50 : decode cC_Nam_forget 50 = .ok (.invokevirtual 102, 3) := by decide +kernel
theorem dC_Nam_forget_53 : decode cC_Nam_forget 53 = .ok (.iastore, 1) := by decide +kernel
theorem dC_Nam_forget_54 : decode cC_Nam_forget 54 = .ok (.iinc 1 (-1), 3) := by decide +kernel
theorem dC_Nam_forget_57 : decode cC_Nam_forget 57 = .ok (.goto (-47), 3) := by decide +kernel
theorem dC_Nam_forget_60 : decode cC_Nam_forget 60 = .ok (.aload_n 0, 1) := by decide +kernel
theorem dC_Nam_forget_61 : decode cC_Nam_forget 61 = .ok (.getfield 32, 3) := by decide +kernel
theorem dC_Nam_forget_64 : decode cC_Nam_forget 64 = .ok (.aload_n 0, 1) := by decide +kernel
theorem dC_Nam_forget_65 : decode cC_Nam_forget 65 = .ok (.getfield 95, 3) := by decide +kernel
theorem dC_Nam_forget_68 : decode cC_Nam_forget 68 = .ok (.invokevirtual 106, 3) := by decide +kernel
theorem dC_Nam_forget_71 : decode cC_Nam_forget 71 = .ok (.aload_n 0, 1) := by decide +kernel
theorem dC_Nam_forget_72 : decode cC_Nam_forget 72 = .ok (.getfield 35, 3) := by decide +kernel
theorem dC_Nam_forget_75 : decode cC_Nam_forget 75 = .ok (.aload_n 0, 1) := by decide +kernel
theorem dC_Nam_forget_76 : decode cC_Nam_forget 76 = .ok (.getfield 95, 3) := by decide +kernel
theorem dC_Nam_forget_79 : decode cC_Nam_forget 79 = .ok (.invokevirtual 106, 3) := by decide +kernel
theorem dC_Nam_forget_82 : decode cC_Nam_forget 82 = .ok (.aload_n 0, 1) := by decide +kernel
theorem dC_Nam_forget_83 : decode cC_Nam_forget 83 = .ok (.getfield 38, 3) := by decide +kernel
theorem dC_Nam_forget_86 : decode cC_Nam_forget 86 = .ok (.aload_n 0, 1) := by decide +kernel
theorem dC_Nam_forget_87 : decode cC_Nam_forget 87 = .ok (.getfield 95, 3) := by decide +kernel
theorem dC_Nam_forget_90 : decode cC_Nam_forget 90 = .ok (.iconst (1), 1) := by decide +kernel
theorem dC_Nam_forget_91 : decode cC_Nam_forget 91 = .ok (.iadd, 1) := by decide +kernel
theorem dC_Nam_forget_92 : decode cC_Nam_forget 92 = .ok (.invokevirtual 106, 3) := by decide +kernel
theorem dC_Nam_forget_95 : decode cC_Nam_forget 95 = .ok (.aload_n 0, 1) := by decide +kernel
theorem dC_Nam_forget_96 : decode cC_Nam_forget 96 = .ok (.getfield 41, 3) := by decide +kernel
theorem dC_Nam_forget_99 : decode cC_Nam_forget 99 = .ok (.aload_n 0, 1) := by decide +kernel
theorem dC_Nam_forget_100 : decode cC_Nam_forget 100 = .ok (.getfield 38, 3) := by decide +kernel
theorem dC_Nam_forget_103 : decode cC_Nam_forget 103 = .ok (.aload_n 0, 1) := by decide +kernel
theorem dC_Nam_forget_104 : decode cC_Nam_forget 104 = .ok (.getfield 95, 3) := by decide +kernel
theorem dC_Nam_forget_107 : decode cC_Nam_forget 107 = .ok (.invokevirtual 102, 3) := by decide +kernel
theorem dC_Nam_forget_110 : decode cC_Nam_forget 110 = .ok (.invokevirtual 106, 3) := by decide +kernel
theorem dC_Nam_forget_113 : decode cC_Nam_forget 113 = .ok (.aload_n 0, 1) := by decide +kernel
theorem dC_Nam_forget_114 : decode cC_Nam_forget 114 = .ok (.getfield 16, 3) := by decide +kernel
theorem dC_Nam_forget_117 : decode cC_Nam_forget 117 = .ok (.aload_n 0, 1) := by decide +kernel
theorem dC_Nam_forget_118 : decode cC_Nam_forget 118 = .ok (.getfield 95, 3) := by decide +kernel
theorem dC_Nam_forget_121 : decode cC_Nam_forget 121 = .ok (.invokevirtual 106, 3) := by decide +kernel
theorem dC_Nam_forget_124 : decode cC_Nam_forget 124 = .ok (.aload_n 0, 1) := by decide +kernel
theorem dC_Nam_forget_125 : decode cC_Nam_forget 125 = .ok (.getfield 10, 3) := by decide +kernel
theorem dC_Nam_forget_128 : decode cC_Nam_forget 128 = .ok (.aload_n 0, 1) := by decide +kernel
theorem dC_Nam_forget_129 : decode cC_Nam_forget 129 = .ok (.getfield 95, 3) := by decide +kernel
theorem dC_Nam_forget_132 : decode cC_Nam_forget 132 = .ok (.invokevirtual 106, 3) := by decide +kernel
theorem dC_Nam_forget_135 : decode cC_Nam_forget 135 = .ok (.aload_n 0, 1) := by decide +kernel
theorem dC_Nam_forget_136 : decode cC_Nam_forget 136 = .ok (.getfield 10, 3) := by decide +kernel
theorem dC_Nam_forget_139 : decode cC_Nam_forget 139 = .ok (.iconst (0), 1) := by decide +kernel
theorem dC_Nam_forget_140 : decode cC_Nam_forget 140 = .ok (.aload_n 0, 1) := by decide +kernel
theorem dC_Nam_forget_141 : decode cC_Nam_forget 141 = .ok (.getfield 95, 3) := by decide +kernel
theorem dC_Nam_forget_144 : decode cC_Nam_forget 144 = .ok (.iconst (0), 1) := by decide +kernel
theorem dC_Nam_forget_145 : decode cC_Nam_forget 145 = .ok (.invokevirtual 109, 3) := by decide +kernel
theorem dC_Nam_forget_148 : decode cC_Nam_forget 148 = .ok (.return_, 1) := by decide +kernel
abbrev cC_Nam_finishRegister : ByteArray := prog_7_method_16_code
def yC_Nam_finishRegister : MethodName := ⟨R_Nam, "finishRegister", "(I)V"⟩
theorem dC_Nam_finishRegister_0 : decode cC_Nam_finishRegister 0 = .ok (.aload_n 0, 1) := by decide +kernel
theorem dC_Nam_finishRegister_1 : decode cC_Nam_finishRegister 1 = .ok (.invokevirtual 141, 3) := by decide +kernel
theorem dC_Nam_finishRegister_4 : decode cC_Nam_finishRegister 4 = .ok (.pop, 1) := by decide +kernel
theorem dC_Nam_finishRegister_5 : decode cC_Nam_finishRegister 5 = .ok (.aload_n 0, 1) := by decide +kernel
theorem dC_Nam_finishRegister_6 : decode cC_Nam_finishRegister 6 = .ok (.getfield 19, 3) := by decide +kernel
theorem dC_Nam_finishRegister_9 : decode cC_Nam_finishRegister 9 = .ok (.iconst (0), 1) := by decide +kernel
theorem dC_Nam_finishRegister_10 : decode cC_Nam_finishRegister 10 = .ok (.invokevirtual 48, 3) := by decide +kernel
theorem dC_Nam_finishRegister_13 : decode cC_Nam_finishRegister 13 = .ok (.aload_n 0, 1) := by decide +kernel
theorem dC_Nam_finishRegister_14 : decode cC_Nam_finishRegister 14 = .ok (.getfield 25, 3) := by decide +kernel
theorem dC_Nam_finishRegister_17 : decode cC_Nam_finishRegister 17 = .ok (.iconst (0), 1) := by decide +kernel
theorem dC_Nam_finishRegister_18 : decode cC_Nam_finishRegister 18 = .ok (.invokevirtual 48, 3) := by decide +kernel
theorem dC_Nam_finishRegister_21 : decode cC_Nam_finishRegister 21 = .ok (.aload_n 0, 1) := by decide +kernel
theorem dC_Nam_finishRegister_22 : decode cC_Nam_finishRegister 22 = .ok (.getfield 22, 3) := by decide +kernel
theorem dC_Nam_finishRegister_25 : decode cC_Nam_finishRegister 25 = .ok (.iload_n 1, 1) := by decide +kernel
theorem dC_Nam_finishRegister_26 : decode cC_Nam_finishRegister 26 = .ok (.iconst (1), 1) := by decide +kernel
theorem dC_Nam_finishRegister_27 : decode cC_Nam_finishRegister 27 = .ok (.iadd, 1) := by decide +kernel
theorem dC_Nam_finishRegister_28 : decode cC_Nam_finishRegister 28 = .ok (.invokevirtual 48, 3) := by decide +kernel
theorem dC_Nam_finishRegister_31 : decode cC_Nam_finishRegister 31 = .ok (.return_, 1) := by decide +kernel
abbrev cC_Nam_enterNumbered : ByteArray := prog_7_method_14_code
def yC_Nam_enterNumbered : MethodName := ⟨R_Nam, "enterNumbered", "()V"⟩
theorem dC_Nam_enterNumbered_0 : decode cC_Nam_enterNumbered 0 = .ok (.iconst (0), 1) := by decide +kernel
theorem dC_Nam_enterNumbered_1 : decode cC_Nam_enterNumbered 1 = .ok (.istore_n 1, 1) := by decide +kernel
theorem dC_Nam_enterNumbered_2 : decode cC_Nam_enterNumbered 2 = .ok (.iload_n 1, 1) := by decide +kernel
theorem dC_Nam_enterNumbered_3 : decode cC_Nam_enterNumbered 3 = .ok (.bipush (32), 2) := by decide +kernel
theorem dC_Nam_enterNumbered_5 : decode cC_Nam_enterNumbered 5 = .ok (.if_icmp .ge (48), 3) := by decide +kernel
theorem dC_Nam_enterNumbered_8 : decode cC_Nam_enterNumbered 8 = .ok (.aload_n 0, 1) := by decide +kernel
theorem dC_Nam_enterNumbered_9 : decode cC_Nam_enterNumbered 9 = .ok (.bipush (120), 2) := by decide +kernel
theorem dC_Nam_enterNumbered_11 : decode cC_Nam_enterNumbered 11 = .ok (.invokevirtual 134, 3) := by decide +kernel
theorem dC_Nam_enterNumbered_14 : decode cC_Nam_enterNumbered 14 = .ok (.iload_n 1, 1) := by decide +kernel
theorem dC_Nam_enterNumbered_15 : decode cC_Nam_enterNumbered 15 = .ok (.bipush (10), 2) := by decide +kernel
theorem dC_Nam_enterNumbered_17 : decode cC_Nam_enterNumbered 17 = .ok (.if_icmp .lt (14), 3) := by decide +kernel
theorem dC_Nam_enterNumbered_20 : decode cC_Nam_enterNumbered 20 = .ok (.aload_n 0, 1) := by decide +kernel
theorem dC_Nam_enterNumbered_21 : decode cC_Nam_enterNumbered 21 = .ok (.bipush (48), 2) := by decide +kernel
theorem dC_Nam_enterNumbered_23 : decode cC_Nam_enterNumbered 23 = .ok (.iload_n 1, 1) := by decide +kernel
theorem dC_Nam_enterNumbered_24 : decode cC_Nam_enterNumbered 24 = .ok (.bipush (10), 2) := by decide +kernel
theorem dC_Nam_enterNumbered_26 : decode cC_Nam_enterNumbered 26 = .ok (.idiv, 1) := by decide +kernel
theorem dC_Nam_enterNumbered_27 : decode cC_Nam_enterNumbered 27 = .ok (.iadd, 1) := by decide +kernel
theorem dC_Nam_enterNumbered_28 : decode cC_Nam_enterNumbered 28 = .ok (.invokevirtual 134, 3) := by decide +kernel
theorem dC_Nam_enterNumbered_31 : decode cC_Nam_enterNumbered 31 = .ok (.aload_n 0, 1) := by decide +kernel
theorem dC_Nam_enterNumbered_32 : decode cC_Nam_enterNumbered 32 = .ok (.bipush (48), 2) := by decide +kernel
theorem dC_Nam_enterNumbered_34 : decode cC_Nam_enterNumbered 34 = .ok (.iload_n 1, 1) := by decide +kernel
theorem dC_Nam_enterNumbered_35 : decode cC_Nam_enterNumbered 35 = .ok (.bipush (10), 2) := by decide +kernel
theorem dC_Nam_enterNumbered_37 : decode cC_Nam_enterNumbered 37 = .ok (.irem, 1) := by decide +kernel
theorem dC_Nam_enterNumbered_38 : decode cC_Nam_enterNumbered 38 = .ok (.iadd, 1) := by decide +kernel
theorem dC_Nam_enterNumbered_39 : decode cC_Nam_enterNumbered 39 = .ok (.invokevirtual 134, 3) := by decide +kernel
theorem dC_Nam_enterNumbered_42 : decode cC_Nam_enterNumbered 42 = .ok (.aload_n 0, 1) := by decide +kernel
theorem dC_Nam_enterNumbered_43 : decode cC_Nam_enterNumbered 43 = .ok (.iload_n 1, 1) := by decide +kernel
theorem dC_Nam_enterNumbered_44 : decode cC_Nam_enterNumbered 44 = .ok (.invokevirtual 167, 3) := by decide +kernel
theorem dC_Nam_enterNumbered_47 : decode cC_Nam_enterNumbered 47 = .ok (.iinc 1 (1), 3) := by decide +kernel
theorem dC_Nam_enterNumbered_50 : decode cC_Nam_enterNumbered 50 = .ok (.goto (-48), 3) := by decide +kernel
theorem dC_Nam_enterNumbered_53 : decode cC_Nam_enterNumbered 53 = .ok (.return_, 1) := by decide +kernel
theorem gC_Nam_48 : GoodIn lw_gd (wsV R_Nam 48 R_Row yC_Row_add (.code yC_Row_add cC_Row_add 2 none :: lw_gd)) := lw_GV qc_75 qc_72 qc_73 qc_74 qc_2
theorem gC_Nam_98 : GoodIn lw_gd (wsV R_Nam 98 R_Nam yC_Nam_isPut (.code yC_Nam_isPut cC_Nam_isPut 5 (some .boolean) :: lw_gd)) := lw_GV qc_166 qc_163 qc_165 qsc_3 qc_3
theorem gC_Nam_102 : GoodIn lw_gd (wsV R_Nam 102 R_Row yC_Row_get (.code yC_Row_get cC_Row_get 2 (some .int) :: lw_gd)) := lw_GV qc_170 qc_167 qc_168 qc_169 qc_2
theorem gC_Nam_106 : GoodIn lw_gd (wsV R_Nam 106 R_Row yC_Row_cut (.code yC_Row_cut cC_Row_cut 2 none :: lw_gd)) := lw_GV qc_182 qc_179 qc_180 qc_181 qc_2
theorem gC_Nam_109 : GoodIn lw_gd (wsV R_Nam 109 R_Row yC_Row_fill (.code yC_Row_fill cC_Row_fill 4 none :: lw_gd)) := lw_GV qc_610 qc_607 qc_608 qc_609 qc_2
theorem gC_Nam_113 : GoodIn lw_gd (wsV R_Nam 113 R_Row yC_Row_set (.code yC_Row_set cC_Row_set 3 none :: lw_gd)) := lw_GV qc_1114 qc_1111 qc_1112 qc_1113 qc_2
theorem gC_Nam_117 : GoodIn lw_gd (wsV R_Nam 117 R_Nam yC_Nam_lengthOf (.code yC_Nam_lengthOf cC_Nam_lengthOf 2 (some .int) :: lw_gd)) := lw_GV qc_174 qc_171 qc_172 qc_173 qc_3
theorem gC_Nam_120 : GoodIn lw_gd (wsV R_Nam 120 R_Nam yC_Nam_letterOf (.code yC_Nam_letterOf cC_Nam_letterOf 3 (some .int) :: lw_gd)) := lw_GV qc_178 qc_175 qc_176 qc_177 qc_3
theorem gC_Nam_134 : GoodIn lw_gd (wsV R_Nam 134 R_Nam yC_Nam_put (.code yC_Nam_put cC_Nam_put 2 none :: lw_gd)) := lw_GV qc_158 qc_155 qc_156 qc_157 qc_3
theorem gC_Nam_141 : GoodIn lw_gd (wsV R_Nam 141 R_Nam yC_Nam_finish (.code yC_Nam_finish cC_Nam_finish 4 (some .int) :: lw_gd)) := lw_GV qc_162 qc_159 qc_160 qc_161 qc_3
theorem gC_Nam_167 : GoodIn lw_gd (wsV R_Nam 167 R_Nam yC_Nam_finishRegister (.code yC_Nam_finishRegister cC_Nam_finishRegister 2 none :: lw_gd)) := lw_GV qc_200 qc_197 qc_199 qsc_5 qc_3
section
variable {p : Program} {l : Launch} {e : Env} {s : State} {m : MethodId} {args : Array Value} {below : List Frame} {meth : Method} {c : Code} {D : va_G} {dA : Nat → ClassId} {z : Nat → Nat} {o b i : Nat → Nat} {A : Nat → Prop}
def C_Nam_put (x1 : Int32) (sN : CS) : Option ((Int32 × CS) × (Nat × Nat)) :=
  ct (C_Row_add  x1 (rg sN 8)) (fun r1 u2 => bnd (rs sN 8 u2) (fun sN8 => bnd (cF sN8 0 (((sN8.1 0) * (31 : Int32)) + x1)) (fun sN9 => some (((0 : Int32), sN9), (0, 0)))))
set_option maxHeartbeats 4000000 in
set_option maxRecDepth 100000 in
theorem bC_Nam_put_0  {r : Int32} {u : CS} {DC DS : Nat} (C : CxC R_Nam p s m args meth c cC_Nam_put 2 none D dA z A) (x1 : Int32) (sN : CS) (dc ds kc ks : Nat) (hM : C_Nam_put  x1 sN = some ((r, u), (dc, ds))) (hdc : kc + dc ≤ DC) (hds : ks + ds ≤ DS) (b : Nat → Nat) (H : Heap) (locs : List Loc) (hW : WdC D A s (w_Nam dA o b sN) H locs) (ls : Array Slot) (hl : lv_has ls 2 [(0, .ref (o 16)), (1, .int x1)]) : W p l e (rmC 3 123 DC DS) s m args below meth c H locs kc ks (MQ below (QC D A (fun Ws' ov => ∃ b' : Nat → Nat, Ws' = (w_Nam dA o b' u) ∧ ov = none)) args s DC DS A) (F0 m 0 ls []) := by
  have hx := C.1.1
  have hb := C.1.2.1
  have hown := C.1.2.2.2.2.1
  have hT := C.1.2.2.2.2.2.1
  unfold C_Nam_put at hM
  refine lv_aload_n (pc := 0) hx hb dC_Nam_put_0 rfl (lv_at hl 0 rfl) ?_
  refine x_getC (pc := 1) C hW 0 rfl (ci := 2) rfl i_Nam 12 (by decide) qc_235 rfl rfl dC_Nam_put_1 ?_
  refine lv_iload_n (pc := 4) hx hb dC_Nam_put_4 rfl (lv_at hl 1 rfl) ?_
  obtain ⟨r1, u2, da3, ea4, db5, eb6, hr1, hM, hqda3, hpda3⟩ := ct_some hM
  refine x_callC (pc := 5) (n' := 20) C hW (kC_Row_add l D dA z (fun _ => o 25) (fun _ => b 25)  x1 (rg sN 8) hr1) [17, 18, 0, 1, 2, 3, 4, 5, 6, 7, 8, 9, 10, 11, 12, 13, 14, 15, 16, 19] rfl (by decide +kernel) rfl (ci := 1) rfl (q0 := 17) rfl gC_Nam_48 ⟨rfl, by decide, by decide, by decide +kernel⟩ ⟨Nat.le_of_ble_eq_true rfl, Nat.le_of_ble_eq_true rfl⟩ ⟨show _ + da3 ≤ DC by omega, show _ + ea4 ≤ DS by omega⟩ (As := [.int x1]) (n := 1) rfl hl.1 rfl (Nat.le_of_ble_eq_true rfl) dC_Nam_put_5 (fun Wc' ov H locs hPo hWn => ?_)
  obtain ⟨b7, rfl, rfl⟩ := hPo
  have hW := hWn (w_Nam dA o (uN b 25 (b7 0)) (rs sN 8 u2)) rfl rfl
  generalize uN b 25 (b7 0) = b at hW
  obtain ⟨sN8, esN8, hM⟩ := bnd_some hM
  rw [← esN8] at hW
  refine lv_aload_n (pc := 8) hx hb dC_Nam_put_8 rfl (lv_at hl 0 rfl) ?_
  refine lv_aload_n (pc := 9) hx hb dC_Nam_put_9 rfl (lv_at hl 0 rfl) ?_
  refine x_getC (pc := 10) C hW 0 rfl (ci := 2) rfl i_Nam 14 (by decide) qc_237 rfl rfl dC_Nam_put_10 ?_
  refine lv_bipush (pc := 13) (v := 31) hx hb dC_Nam_put_13 (by decide) ?_
  refine lv_imul (pc := 15) hx hb dC_Nam_put_15 ?_
  refine lv_iload_n (pc := 16) hx hb dC_Nam_put_16 rfl (lv_at hl 1 rfl) ?_
  refine lv_iadd (pc := 17) hx hb dC_Nam_put_17 ?_
  refine x_putC (pc := 18) (ty := .int) (Ws' := (w_Nam dA o b (cF sN8 0 (((sN8.1 0) * (31 : Int32)) + x1)))) C hW 0 rfl (ci := 2) rfl i_Nam tok_Nam n_Nam 14 (by decide) qc_237 rfl rfl (by decide +kernel) rfl rfl (Nat.le_of_ble_eq_true rfl) rfl dC_Nam_put_18 (fun H locs hW => ?_)
  obtain ⟨sN9, esN9, hM⟩ := bnd_some hM
  rw [← esN9] at hW
  obtain ⟨rfl, rfl, rfl, rfl⟩ := sm_q hM
  exact x_retCv (pc := 21) C rfl hW ⟨_, rfl, rfl⟩ (by omega) (by omega) dC_Nam_put_21
theorem kC_Nam_put (l : Launch) (D : va_G) (dA : Nat → ClassId) (z : Nat → Nat) (o b : Nat → Nat) (x1 : Int32) (sN : CS) {r : Int32} {u : CS} {dc ds : Nat} (hM : C_Nam_put x1 sN = some ((r, u), (dc, ds))) : KC l D dA z yC_Nam_put cC_Nam_put 2 none 3 123 dc ds (w_Nam dA o b sN) [.ref (o 16), .int x1] (fun Ws' ov => ∃ b' : Nat → Nat, Ws' = (w_Nam dA o b' u) ∧ ov = none) := x_enterC (by decide +kernel) (Nat.le_of_ble_eq_true rfl) (fun p e s m args below meth c A C _ hW ls hl => bC_Nam_put_0 C x1 sN dc ds 0 0 hM (by omega) (by omega) b s.heap [] hW ls hl)
def C_Nam_lengthOf_38 (t0 : Int32) (sN : CS) : Option Int32 :=
  some t0
set_option maxHeartbeats 4000000 in
set_option maxRecDepth 100000 in
theorem bC_Nam_lengthOf_38  {r : Int32} (C : CxC R_Nam p s m args meth c cC_Nam_lengthOf 2 (some .int) D dA z A) (t0 : Int32) (sN : CS) (hM : C_Nam_lengthOf_38  t0 sN = some r) (hW : WdC D A s (w_Nam dA o b sN) s.heap []) (ls : Array Slot) (hl : lv_has ls 2 []) : W p l e (rmC 1 21 0 0) s m args below meth c s.heap [] 0 0 (MQ below (QS (some (.int r))) args s 0 0 (fun _ => False)) (F0 m 38 ls [.int t0]) := by
  have hx := C.1.1
  have hb := C.1.2.1
  have hown := C.1.2.2.2.2.1
  have hT := C.1.2.2.2.2.2.1
  unfold C_Nam_lengthOf_38 at hM
  obtain rfl := sm_i hM
  exact x_retS (pc := 38) C.1 rfl dC_Nam_lengthOf_38
def C_Nam_lengthOf_37  (sN : CS) : Option Int32 :=
  C_Nam_lengthOf_38  (0 : Int32) sN
set_option maxHeartbeats 4000000 in
set_option maxRecDepth 100000 in
theorem bC_Nam_lengthOf_37  {r : Int32} (C : CxC R_Nam p s m args meth c cC_Nam_lengthOf 2 (some .int) D dA z A)  (sN : CS) (hM : C_Nam_lengthOf_37   sN = some r) (hW : WdC D A s (w_Nam dA o b sN) s.heap []) (ls : Array Slot) (hl : lv_has ls 2 []) : W p l e (rmC 1 21 0 0) s m args below meth c s.heap [] 0 0 (MQ below (QS (some (.int r))) args s 0 0 (fun _ => False)) (F0 m 37 ls []) := by
  have hx := C.1.1
  have hb := C.1.2.1
  have hown := C.1.2.2.2.2.1
  have hT := C.1.2.2.2.2.2.1
  unfold C_Nam_lengthOf_37 at hM
  refine lv_iconst (pc := 37) (v := 0) hx hb dC_Nam_lengthOf_37 (by decide) ?_
  exact bC_Nam_lengthOf_38  C  _ _ hM hW _ (lv_sub hl [] rfl)
def C_Nam_lengthOf (x1 : Int32) (sN : CS) : Option Int32 :=
  (if x1 < 0 then C_Nam_lengthOf_37  sN else (if (sN.1 100) ≤ x1 then C_Nam_lengthOf_37  sN else cr (C_Row_get  (x1 + (1 : Int32)) (rg sN 7)) (fun r1 => cr (C_Row_get  x1 (rg sN 7)) (fun r2 => C_Nam_lengthOf_38  (r1 - r2) sN))))
set_option maxHeartbeats 4000000 in
set_option maxRecDepth 100000 in
theorem bC_Nam_lengthOf_0  {r : Int32} (C : CxC R_Nam p s m args meth c cC_Nam_lengthOf 2 (some .int) D dA z A) (x1 : Int32) (sN : CS) (hM : C_Nam_lengthOf  x1 sN = some r) (hW : WdC D A s (w_Nam dA o b sN) s.heap []) (ls : Array Slot) (hl : lv_has ls 2 [(0, .ref (o 16)), (1, .int x1)]) : W p l e (rmC 1 21 0 0) s m args below meth c s.heap [] 0 0 (MQ below (QS (some (.int r))) args s 0 0 (fun _ => False)) (F0 m 0 ls []) := by
  have hx := C.1.1
  have hb := C.1.2.1
  have hown := C.1.2.2.2.2.1
  have hT := C.1.2.2.2.2.2.1
  unfold C_Nam_lengthOf at hM
  refine lv_iload_n (pc := 0) hx hb dC_Nam_lengthOf_0 rfl (lv_at hl 1 rfl) ?_
  refine lv_if_lt (pc := 1) (tgt := 37) hx hb dC_Nam_lengthOf_1 (by decide) (fun hc => ?_) (fun hc => ?_)
  · replace hM := it_t hc hM
    exact bC_Nam_lengthOf_37  C  _ hM hW _ (lv_sub hl [] rfl)
  · replace hM := it_f hc hM
    refine lv_iload_n (pc := 4) hx hb dC_Nam_lengthOf_4 rfl (lv_at hl 1 rfl) ?_
    refine lv_aload_n (pc := 5) hx hb dC_Nam_lengthOf_5 rfl (lv_at hl 0 rfl) ?_
    refine x_getC (pc := 6) C hW 0 rfl (ci := 2) rfl i_Nam 0 (by decide) qc_215 rfl rfl dC_Nam_lengthOf_6 ?_
    refine x_getC (pc := 9) C hW 1 rfl (ci := 1) rfl i_Row 0 (by decide) qc_53 rfl rfl dC_Nam_lengthOf_9 ?_
    refine lv_icmp_ge (pc := 12) (tgt := 37) hx hb dC_Nam_lengthOf_12 (by decide) (fun hc => ?_) (fun hc => ?_)
    · replace hM := it_t hc hM
      exact bC_Nam_lengthOf_37  C  _ hM hW _ (lv_sub hl [] rfl)
    · replace hM := it_f hc hM
      refine lv_aload_n (pc := 15) hx hb dC_Nam_lengthOf_15 rfl (lv_at hl 0 rfl) ?_
      refine x_getC (pc := 16) C hW 0 rfl (ci := 2) rfl i_Nam 11 (by decide) qc_234 rfl rfl dC_Nam_lengthOf_16 ?_
      refine lv_iload_n (pc := 19) hx hb dC_Nam_lengthOf_19 rfl (lv_at hl 1 rfl) ?_
      refine lv_iconst (pc := 20) (v := 1) hx hb dC_Nam_lengthOf_20 (by decide) ?_
      refine lv_iadd (pc := 21) hx hb dC_Nam_lengthOf_21 ?_
      obtain ⟨r1, hr1, hM⟩ := cr_some hM
      refine x_callQ (pc := 22) (n' := 20) (ov := some (.int r1)) C hW (kC_Row_get l D dA z (fun _ => o 24) (fun _ => b 24)  (x1 + (1 : Int32)) (rg sN 7) hr1) [15, 16, 0, 1, 2, 3, 4, 5, 6, 7, 8, 9, 10, 11, 12, 13, 14, 17, 18, 19] rfl (by decide +kernel) rfl (ci := 1) rfl (q0 := 15) rfl gC_Nam_102 ⟨rfl, by decide, by decide, by decide +kernel⟩ ⟨Nat.le_of_ble_eq_true rfl, Nat.le_of_ble_eq_true rfl⟩ ⟨Nat.le_refl _, Nat.le_refl _⟩ (As := [.int (x1 + (1 : Int32))]) (n := 1) rfl hl.1 rfl (Nat.le_of_ble_eq_true rfl) dC_Nam_lengthOf_22 ?_
      refine lv_aload_n (pc := 25) hx hb dC_Nam_lengthOf_25 rfl (lv_at hl 0 rfl) ?_
      refine x_getC (pc := 26) C hW 0 rfl (ci := 2) rfl i_Nam 11 (by decide) qc_234 rfl rfl dC_Nam_lengthOf_26 ?_
      refine lv_iload_n (pc := 29) hx hb dC_Nam_lengthOf_29 rfl (lv_at hl 1 rfl) ?_
      obtain ⟨r2, hr2, hM⟩ := cr_some hM
      refine x_callQ (pc := 30) (n' := 20) (ov := some (.int r2)) C hW (kC_Row_get l D dA z (fun _ => o 24) (fun _ => b 24)  x1 (rg sN 7) hr2) [15, 16, 0, 1, 2, 3, 4, 5, 6, 7, 8, 9, 10, 11, 12, 13, 14, 17, 18, 19] rfl (by decide +kernel) rfl (ci := 1) rfl (q0 := 15) rfl gC_Nam_102 ⟨rfl, by decide, by decide, by decide +kernel⟩ ⟨Nat.le_of_ble_eq_true rfl, Nat.le_of_ble_eq_true rfl⟩ ⟨Nat.le_refl _, Nat.le_refl _⟩ (As := [.int x1]) (n := 1) rfl hl.1 rfl (Nat.le_of_ble_eq_true rfl) dC_Nam_lengthOf_30 ?_
      refine lv_isub (pc := 33) hx hb dC_Nam_lengthOf_33 ?_
      refine lv_goto (pc := 34) (tgt := 38) hx hb dC_Nam_lengthOf_34 (by decide) ?_
      exact bC_Nam_lengthOf_38  C  _ _ hM hW _ (lv_sub hl [] rfl)
theorem kC_Nam_lengthOf (l : Launch) (D : va_G) (dA : Nat → ClassId) (z : Nat → Nat) (o b : Nat → Nat) (x1 : Int32) (sN : CS) {r : Int32} (hM : C_Nam_lengthOf x1 sN = some r) : KQ l D dA z yC_Nam_lengthOf cC_Nam_lengthOf 2 (some .int) 1 21 (w_Nam dA o b sN) [.ref (o 16), .int x1] (some (.int r)) := x_enterQ (by decide +kernel) (Nat.le_of_ble_eq_true rfl) (fun p e s m args below meth c A C hW ls hl => bC_Nam_lengthOf_0 C x1 sN hM hW ls hl)
def C_Nam_letterOf (x1 : Int32) (x2 : Int32) (sN : CS) : Option Int32 :=
  cr (C_Row_get  x1 (rg sN 7)) (fun r1 => cr (C_Row_get  (r1 + x2) (rg sN 8)) (fun r2 => some r2))
set_option maxHeartbeats 4000000 in
set_option maxRecDepth 100000 in
theorem bC_Nam_letterOf_0  {r : Int32} (C : CxC R_Nam p s m args meth c cC_Nam_letterOf 3 (some .int) D dA z A) (x1 : Int32) (x2 : Int32) (sN : CS) (hM : C_Nam_letterOf  x1 x2 sN = some r) (hW : WdC D A s (w_Nam dA o b sN) s.heap []) (ls : Array Slot) (hl : lv_has ls 3 [(0, .ref (o 16)), (1, .int x1), (2, .int x2)]) : W p l e (rmC 1 21 0 0) s m args below meth c s.heap [] 0 0 (MQ below (QS (some (.int r))) args s 0 0 (fun _ => False)) (F0 m 0 ls []) := by
  have hx := C.1.1
  have hb := C.1.2.1
  have hown := C.1.2.2.2.2.1
  have hT := C.1.2.2.2.2.2.1
  unfold C_Nam_letterOf at hM
  refine lv_aload_n (pc := 0) hx hb dC_Nam_letterOf_0 rfl (lv_at hl 0 rfl) ?_
  refine x_getC (pc := 1) C hW 0 rfl (ci := 2) rfl i_Nam 12 (by decide) qc_235 rfl rfl dC_Nam_letterOf_1 ?_
  refine lv_aload_n (pc := 4) hx hb dC_Nam_letterOf_4 rfl (lv_at hl 0 rfl) ?_
  refine x_getC (pc := 5) C hW 0 rfl (ci := 2) rfl i_Nam 11 (by decide) qc_234 rfl rfl dC_Nam_letterOf_5 ?_
  refine lv_iload_n (pc := 8) hx hb dC_Nam_letterOf_8 rfl (lv_at hl 1 rfl) ?_
  obtain ⟨r1, hr1, hM⟩ := cr_some hM
  refine x_callQ (pc := 9) (n' := 20) (ov := some (.int r1)) C hW (kC_Row_get l D dA z (fun _ => o 24) (fun _ => b 24)  x1 (rg sN 7) hr1) [15, 16, 0, 1, 2, 3, 4, 5, 6, 7, 8, 9, 10, 11, 12, 13, 14, 17, 18, 19] rfl (by decide +kernel) rfl (ci := 1) rfl (q0 := 15) rfl gC_Nam_102 ⟨rfl, by decide, by decide, by decide +kernel⟩ ⟨Nat.le_of_ble_eq_true rfl, Nat.le_of_ble_eq_true rfl⟩ ⟨Nat.le_refl _, Nat.le_refl _⟩ (As := [.int x1]) (n := 1) rfl hl.1 rfl (Nat.le_of_ble_eq_true rfl) dC_Nam_letterOf_9 ?_
  refine lv_iload_n (pc := 12) hx hb dC_Nam_letterOf_12 rfl (lv_at hl 2 rfl) ?_
  refine lv_iadd (pc := 13) hx hb dC_Nam_letterOf_13 ?_
  obtain ⟨r2, hr2, hM⟩ := cr_some hM
  refine x_callQ (pc := 14) (n' := 20) (ov := some (.int r2)) C hW (kC_Row_get l D dA z (fun _ => o 25) (fun _ => b 25)  (r1 + x2) (rg sN 8) hr2) [17, 18, 0, 1, 2, 3, 4, 5, 6, 7, 8, 9, 10, 11, 12, 13, 14, 15, 16, 19] rfl (by decide +kernel) rfl (ci := 1) rfl (q0 := 17) rfl gC_Nam_102 ⟨rfl, by decide, by decide, by decide +kernel⟩ ⟨Nat.le_of_ble_eq_true rfl, Nat.le_of_ble_eq_true rfl⟩ ⟨Nat.le_refl _, Nat.le_refl _⟩ (As := [.int (r1 + x2)]) (n := 1) rfl hl.1 rfl (Nat.le_of_ble_eq_true rfl) dC_Nam_letterOf_14 ?_
  obtain rfl := sm_i hM
  exact x_retS (pc := 17) C.1 rfl dC_Nam_letterOf_17
theorem kC_Nam_letterOf (l : Launch) (D : va_G) (dA : Nat → ClassId) (z : Nat → Nat) (o b : Nat → Nat) (x1 : Int32) (x2 : Int32) (sN : CS) {r : Int32} (hM : C_Nam_letterOf x1 x2 sN = some r) : KQ l D dA z yC_Nam_letterOf cC_Nam_letterOf 3 (some .int) 1 21 (w_Nam dA o b sN) [.ref (o 16), .int x1, .int x2] (some (.int r)) := x_enterQ (by decide +kernel) (Nat.le_of_ble_eq_true rfl) (fun p e s m args below meth c A C hW ls hl => bC_Nam_letterOf_0 C x1 x2 sN hM hW ls hl)
def C_Nam_isFree_27 (t0 : Int32) (sN : CS) : Option Int32 :=
  gd (isB t0) (some t0)
set_option maxHeartbeats 4000000 in
set_option maxRecDepth 100000 in
theorem bC_Nam_isFree_27  {r : Int32} (C : CxC R_Nam p s m args meth c cC_Nam_isFree 2 (some .boolean) D dA z A) (t0 : Int32) (sN : CS) (hM : C_Nam_isFree_27  t0 sN = some r) (hW : WdC D A s (w_Nam dA o b sN) s.heap []) (ls : Array Slot) (hl : lv_has ls 2 []) : W p l e (rmC 1 21 0 0) s m args below meth c s.heap [] 0 0 (MQ below (QS (some (.int r))) args s 0 0 (fun _ => False)) (F0 m 27 ls [.int t0]) := by
  have hx := C.1.1
  have hb := C.1.2.1
  have hown := C.1.2.2.2.2.1
  have hT := C.1.2.2.2.2.2.1
  unfold C_Nam_isFree_27 at hM
  obtain ⟨hg1, hM⟩ := gd_some hM
  obtain rfl := sm_i hM
  exact x_retSz (pc := 27) C.1 rfl hg1 dC_Nam_isFree_27
def C_Nam_isFree_26  (sN : CS) : Option Int32 :=
  C_Nam_isFree_27  (0 : Int32) sN
set_option maxHeartbeats 4000000 in
set_option maxRecDepth 100000 in
theorem bC_Nam_isFree_26  {r : Int32} (C : CxC R_Nam p s m args meth c cC_Nam_isFree 2 (some .boolean) D dA z A)  (sN : CS) (hM : C_Nam_isFree_26   sN = some r) (hW : WdC D A s (w_Nam dA o b sN) s.heap []) (ls : Array Slot) (hl : lv_has ls 2 []) : W p l e (rmC 1 21 0 0) s m args below meth c s.heap [] 0 0 (MQ below (QS (some (.int r))) args s 0 0 (fun _ => False)) (F0 m 26 ls []) := by
  have hx := C.1.1
  have hb := C.1.2.1
  have hown := C.1.2.2.2.2.1
  have hT := C.1.2.2.2.2.2.1
  unfold C_Nam_isFree_26 at hM
  refine lv_iconst (pc := 26) (v := 0) hx hb dC_Nam_isFree_26 (by decide) ?_
  exact bC_Nam_isFree_27  C  _ _ hM hW _ (lv_sub hl [] rfl)
def C_Nam_isFree (x1 : Int32) (sN : CS) : Option Int32 :=
  cr (C_Row_get  x1 (rg sN 0)) (fun r1 => (if r1 = 0 then cr (C_Row_get  x1 (rg sN 3)) (fun r2 => (if r2 = 0 then C_Nam_isFree_27  (1 : Int32) sN else C_Nam_isFree_26  sN)) else C_Nam_isFree_26  sN))
set_option maxHeartbeats 4000000 in
set_option maxRecDepth 100000 in
theorem bC_Nam_isFree_0  {r : Int32} (C : CxC R_Nam p s m args meth c cC_Nam_isFree 2 (some .boolean) D dA z A) (x1 : Int32) (sN : CS) (hM : C_Nam_isFree  x1 sN = some r) (hW : WdC D A s (w_Nam dA o b sN) s.heap []) (ls : Array Slot) (hl : lv_has ls 2 [(0, .ref (o 16)), (1, .int x1)]) : W p l e (rmC 1 21 0 0) s m args below meth c s.heap [] 0 0 (MQ below (QS (some (.int r))) args s 0 0 (fun _ => False)) (F0 m 0 ls []) := by
  have hx := C.1.1
  have hb := C.1.2.1
  have hown := C.1.2.2.2.2.1
  have hT := C.1.2.2.2.2.2.1
  unfold C_Nam_isFree at hM
  refine lv_aload_n (pc := 0) hx hb dC_Nam_isFree_0 rfl (lv_at hl 0 rfl) ?_
  refine x_getC (pc := 1) C hW 0 rfl (ci := 2) rfl i_Nam 0 (by decide) qc_215 rfl rfl dC_Nam_isFree_1 ?_
  refine lv_iload_n (pc := 4) hx hb dC_Nam_isFree_4 rfl (lv_at hl 1 rfl) ?_
  obtain ⟨r1, hr1, hM⟩ := cr_some hM
  refine x_callQ (pc := 5) (n' := 20) (ov := some (.int r1)) C hW (kC_Row_get l D dA z (fun _ => o 17) (fun _ => b 17)  x1 (rg sN 0) hr1) [1, 2, 0, 3, 4, 5, 6, 7, 8, 9, 10, 11, 12, 13, 14, 15, 16, 17, 18, 19] rfl (by decide +kernel) rfl (ci := 1) rfl (q0 := 1) rfl gC_Nam_102 ⟨rfl, by decide, by decide, by decide +kernel⟩ ⟨Nat.le_of_ble_eq_true rfl, Nat.le_of_ble_eq_true rfl⟩ ⟨Nat.le_refl _, Nat.le_refl _⟩ (As := [.int x1]) (n := 1) rfl hl.1 rfl (Nat.le_of_ble_eq_true rfl) dC_Nam_isFree_5 ?_
  refine lv_if_ne (pc := 8) (tgt := 26) hx hb dC_Nam_isFree_8 (by decide) (fun hc => ?_) (fun hc => ?_)
  · replace hM := it_f hc hM
    exact bC_Nam_isFree_26  C  _ hM hW _ (lv_sub hl [] rfl)
  · replace hM := it_t hc hM
    refine lv_aload_n (pc := 11) hx hb dC_Nam_isFree_11 rfl (lv_at hl 0 rfl) ?_
    refine x_getC (pc := 12) C hW 0 rfl (ci := 2) rfl i_Nam 3 (by decide) qc_221 rfl rfl dC_Nam_isFree_12 ?_
    refine lv_iload_n (pc := 15) hx hb dC_Nam_isFree_15 rfl (lv_at hl 1 rfl) ?_
    obtain ⟨r2, hr2, hM⟩ := cr_some hM
    refine x_callQ (pc := 16) (n' := 20) (ov := some (.int r2)) C hW (kC_Row_get l D dA z (fun _ => o 20) (fun _ => b 20)  x1 (rg sN 3) hr2) [7, 8, 0, 1, 2, 3, 4, 5, 6, 9, 10, 11, 12, 13, 14, 15, 16, 17, 18, 19] rfl (by decide +kernel) rfl (ci := 1) rfl (q0 := 7) rfl gC_Nam_102 ⟨rfl, by decide, by decide, by decide +kernel⟩ ⟨Nat.le_of_ble_eq_true rfl, Nat.le_of_ble_eq_true rfl⟩ ⟨Nat.le_refl _, Nat.le_refl _⟩ (As := [.int x1]) (n := 1) rfl hl.1 rfl (Nat.le_of_ble_eq_true rfl) dC_Nam_isFree_16 ?_
    refine lv_if_ne (pc := 19) (tgt := 26) hx hb dC_Nam_isFree_19 (by decide) (fun hc => ?_) (fun hc => ?_)
    · replace hM := it_f hc hM
      exact bC_Nam_isFree_26  C  _ hM hW _ (lv_sub hl [] rfl)
    · replace hM := it_t hc hM
      refine lv_iconst (pc := 22) (v := 1) hx hb dC_Nam_isFree_22 (by decide) ?_
      refine lv_goto (pc := 23) (tgt := 27) hx hb dC_Nam_isFree_23 (by decide) ?_
      exact bC_Nam_isFree_27  C  _ _ hM hW _ (lv_sub hl [] rfl)
theorem kC_Nam_isFree (l : Launch) (D : va_G) (dA : Nat → ClassId) (z : Nat → Nat) (o b : Nat → Nat) (x1 : Int32) (sN : CS) {r : Int32} (hM : C_Nam_isFree x1 sN = some r) : KQ l D dA z yC_Nam_isFree cC_Nam_isFree 2 (some .boolean) 1 21 (w_Nam dA o b sN) [.ref (o 16), .int x1] (some (.int r)) := x_enterQ (by decide +kernel) (Nat.le_of_ble_eq_true rfl) (fun p e s m args below meth c A C hW ls hl => bC_Nam_isFree_0 C x1 sN hM hW ls hl)
def C_Nam_define (x1 : Int32) (x2 : Int32) (x3 : Int32) (sN : CS) : Option (Int32 × CS) :=
  cl (C_Row_set  x1 x2 (rg sN 0)) (fun r1 u2 => bnd (rs sN 0 u2) (fun sN3 => cl (C_Row_set  x1 x3 (rg sN3 1)) (fun r4 u5 => bnd (rs sN3 1 u5) (fun sN6 => some ((0 : Int32), sN6)))))
set_option maxHeartbeats 4000000 in
set_option maxRecDepth 100000 in
theorem bC_Nam_define_0  {r : Int32} {u : CS} (C : CxC R_Nam p s m args meth c cC_Nam_define 4 none D dA z A) (x1 : Int32) (x2 : Int32) (x3 : Int32) (sN : CS) (hM : C_Nam_define  x1 x2 x3 sN = some (r, u)) (H : Heap) (locs : List Loc) (hW : WdC D A s (w_Nam dA o b sN) H locs) (ls : Array Slot) (hl : lv_has ls 4 [(0, .ref (o 16)), (1, .int x1), (2, .int x2), (3, .int x3)]) : W p l e (rmC 1 22 0 0) s m args below meth c H locs 0 0 (MQ below (QC D A (fun Ws' ov => Ws' = (w_Nam dA o b u) ∧ ov = none)) args s 0 0 A) (F0 m 0 ls []) := by
  have hx := C.1.1
  have hb := C.1.2.1
  have hown := C.1.2.2.2.2.1
  have hT := C.1.2.2.2.2.2.1
  unfold C_Nam_define at hM
  refine lv_aload_n (pc := 0) hx hb dC_Nam_define_0 rfl (lv_at hl 0 rfl) ?_
  refine x_getC (pc := 1) C hW 0 rfl (ci := 2) rfl i_Nam 0 (by decide) qc_215 rfl rfl dC_Nam_define_1 ?_
  refine lv_iload_n (pc := 4) hx hb dC_Nam_define_4 rfl (lv_at hl 1 rfl) ?_
  refine lv_iload_n (pc := 5) hx hb dC_Nam_define_5 rfl (lv_at hl 2 rfl) ?_
  obtain ⟨r1, u2, hr1, hM⟩ := cl_some hM
  refine x_callC (pc := 6) (n' := 20) C hW (kC_Row_set l D dA z (fun _ => o 17) (fun _ => b 17)  x1 x2 (rg sN 0) hr1) [1, 2, 0, 3, 4, 5, 6, 7, 8, 9, 10, 11, 12, 13, 14, 15, 16, 17, 18, 19] rfl (by decide +kernel) rfl (ci := 1) rfl (q0 := 1) rfl gC_Nam_113 ⟨rfl, by decide, by decide, by decide +kernel⟩ ⟨Nat.le_of_ble_eq_true rfl, Nat.le_of_ble_eq_true rfl⟩ ⟨Nat.le_refl _, Nat.le_refl _⟩ (As := [.int x1, .int x2]) (n := 2) rfl hl.1 rfl (Nat.le_of_ble_eq_true rfl) dC_Nam_define_6 (fun Wc' ov H locs hPo hWn => ?_)
  obtain ⟨rfl, rfl⟩ := hPo
  have hW := hWn (w_Nam dA o b (rs sN 0 u2)) rfl rfl
  obtain ⟨sN3, esN3, hM⟩ := bnd_some hM
  rw [← esN3] at hW
  refine lv_aload_n (pc := 9) hx hb dC_Nam_define_9 rfl (lv_at hl 0 rfl) ?_
  refine x_getC (pc := 10) C hW 0 rfl (ci := 2) rfl i_Nam 1 (by decide) qc_217 rfl rfl dC_Nam_define_10 ?_
  refine lv_iload_n (pc := 13) hx hb dC_Nam_define_13 rfl (lv_at hl 1 rfl) ?_
  refine lv_iload_n (pc := 14) hx hb dC_Nam_define_14 rfl (lv_at hl 3 rfl) ?_
  obtain ⟨r4, u5, hr4, hM⟩ := cl_some hM
  refine x_callC (pc := 15) (n' := 20) C hW (kC_Row_set l D dA z (fun _ => o 18) (fun _ => b 18)  x1 x3 (rg sN3 1) hr4) [3, 4, 0, 1, 2, 5, 6, 7, 8, 9, 10, 11, 12, 13, 14, 15, 16, 17, 18, 19] rfl (by decide +kernel) rfl (ci := 1) rfl (q0 := 3) rfl gC_Nam_113 ⟨rfl, by decide, by decide, by decide +kernel⟩ ⟨Nat.le_of_ble_eq_true rfl, Nat.le_of_ble_eq_true rfl⟩ ⟨Nat.le_refl _, Nat.le_refl _⟩ (As := [.int x1, .int x3]) (n := 2) rfl hl.1 rfl (Nat.le_of_ble_eq_true rfl) dC_Nam_define_15 (fun Wc' ov H locs hPo hWn => ?_)
  obtain ⟨rfl, rfl⟩ := hPo
  have hW := hWn (w_Nam dA o b (rs sN3 1 u5)) rfl rfl
  obtain ⟨sN6, esN6, hM⟩ := bnd_some hM
  rw [← esN6] at hW
  obtain ⟨rfl, rfl⟩ := sm_p hM
  exact x_retCv (pc := 18) C rfl hW ⟨rfl, rfl⟩ (Nat.le_refl 0) (Nat.le_refl 0) dC_Nam_define_18
theorem kC_Nam_define (l : Launch) (D : va_G) (dA : Nat → ClassId) (z : Nat → Nat) (o b : Nat → Nat) (x1 : Int32) (x2 : Int32) (x3 : Int32) (sN : CS) {r : Int32} {u : CS} (hM : C_Nam_define x1 x2 x3 sN = some (r, u)) : KC l D dA z yC_Nam_define cC_Nam_define 4 none 1 22 0 0 (w_Nam dA o b sN) [.ref (o 16), .int x1, .int x2, .int x3] (fun Ws' ov => Ws' = (w_Nam dA o b u) ∧ ov = none) := x_enterC (by decide +kernel) (Nat.le_of_ble_eq_true rfl) (fun p e s m args below meth c A C _ hW ls hl => bC_Nam_define_0 C x1 x2 x3 sN hM s.heap [] hW ls hl)
def C_Nam_isPut_39 (N : Nat)  : Nat → Int32 → Int32 → Int32 → Int32 → CS → Option Int32
  | 0 => fun _ _ _ _ _ => none
  | n + 1 => fun x1 x2 x3 x4 sN => (if x3 ≤ x4 then some (1 : Int32) else cr (C_Nam_letterOf  x1 x4 sN) (fun r1 => cr (C_Row_get  (x2 + x4) (rg sN 8)) (fun r2 => (if r1 = r2 then (C_Nam_isPut_39 N  n) x1 x2 x3 (x4 + (1 : Int32)) sN else some (0 : Int32)))))
set_option maxHeartbeats 4000000 in
set_option maxRecDepth 100000 in
theorem bC_Nam_isPut_39 (N : Nat)  {r : Int32} (C : CxC R_Nam p s m args meth c cC_Nam_isPut 5 (some .boolean) D dA z A) : ∀ (n : Nat) (x1 : Int32) (x2 : Int32) (x3 : Int32) (x4 : Int32) (sN : CS) , C_Nam_isPut_39 N  n x1 x2 x3 x4 sN = some r → ∀ (hW : WdC D A s (w_Nam dA o b sN) s.heap []) (ls : Array Slot) (hl : lv_has ls 5 [(0, .ref (o 16)), (1, .int x1), (2, .int x2), (3, .int x3), (4, .int x4)]), W p l e (rmC 2 43 0 0) s m args below meth c s.heap [] 0 0 (MQ below (QS (some (.int r))) args s 0 0 (fun _ => False)) (F0 m 39 ls []) := by
  have hx := C.1.1
  have hb := C.1.2.1
  have hown := C.1.2.2.2.2.1
  have hT := C.1.2.2.2.2.2.1
  intro n
  induction n with
  | zero => intro x1 x2 x3 x4 sN hM; cases hM
  | succ n hrec39 =>
    intro x1 x2 x3 x4 sN hM hW ls hl
    rw [C_Nam_isPut_39] at hM
    refine lv_iload (pc := 39) hx hb dC_Nam_isPut_39 (lv_at hl 4 rfl) ?_
    refine lv_iload_n (pc := 41) hx hb dC_Nam_isPut_41 rfl (lv_at hl 3 rfl) ?_
    refine lv_icmp_ge (pc := 42) (tgt := 74) hx hb dC_Nam_isPut_42 (by decide) (fun hc => ?_) (fun hc => ?_)
    · replace hM := it_t hc hM
      refine lv_iconst (pc := 74) (v := 1) hx hb dC_Nam_isPut_74 (by decide) ?_
      obtain rfl := sm_i hM
      exact x_retSz (pc := 75) C.1 rfl (by decide) dC_Nam_isPut_75
    · replace hM := it_f hc hM
      refine lv_aload_n (pc := 45) hx hb dC_Nam_isPut_45 rfl (lv_at hl 0 rfl) ?_
      refine lv_iload_n (pc := 46) hx hb dC_Nam_isPut_46 rfl (lv_at hl 1 rfl) ?_
      refine lv_iload (pc := 47) hx hb dC_Nam_isPut_47 (lv_at hl 4 rfl) ?_
      obtain ⟨r1, hr1, hM⟩ := cr_some hM
      refine x_callQ (pc := 49) (n' := 20) (ov := some (.int r1)) C hW (kC_Nam_letterOf l D dA z o b  x1 x4 sN hr1) [0, 1, 2, 3, 4, 5, 6, 7, 8, 9, 10, 11, 12, 13, 14, 15, 16, 17, 18, 19] rfl (by decide +kernel) rfl (ci := 2) rfl (q0 := 0) rfl gC_Nam_120 ⟨rfl, by decide, by decide, by decide +kernel⟩ ⟨Nat.le_of_ble_eq_true rfl, Nat.le_of_ble_eq_true rfl⟩ ⟨Nat.le_refl _, Nat.le_refl _⟩ (As := [.int x1, .int x4]) (n := 2) rfl hl.1 rfl (Nat.le_of_ble_eq_true rfl) dC_Nam_isPut_49 ?_
      refine lv_aload_n (pc := 52) hx hb dC_Nam_isPut_52 rfl (lv_at hl 0 rfl) ?_
      refine x_getC (pc := 53) C hW 0 rfl (ci := 2) rfl i_Nam 12 (by decide) qc_235 rfl rfl dC_Nam_isPut_53 ?_
      refine lv_iload_n (pc := 56) hx hb dC_Nam_isPut_56 rfl (lv_at hl 2 rfl) ?_
      refine lv_iload (pc := 57) hx hb dC_Nam_isPut_57 (lv_at hl 4 rfl) ?_
      refine lv_iadd (pc := 59) hx hb dC_Nam_isPut_59 ?_
      obtain ⟨r2, hr2, hM⟩ := cr_some hM
      refine x_callQ (pc := 60) (n' := 20) (ov := some (.int r2)) C hW (kC_Row_get l D dA z (fun _ => o 25) (fun _ => b 25)  (x2 + x4) (rg sN 8) hr2) [17, 18, 0, 1, 2, 3, 4, 5, 6, 7, 8, 9, 10, 11, 12, 13, 14, 15, 16, 19] rfl (by decide +kernel) rfl (ci := 1) rfl (q0 := 17) rfl gC_Nam_102 ⟨rfl, by decide, by decide, by decide +kernel⟩ ⟨Nat.le_of_ble_eq_true rfl, Nat.le_of_ble_eq_true rfl⟩ ⟨Nat.le_refl _, Nat.le_refl _⟩ (As := [.int (x2 + x4)]) (n := 1) rfl hl.1 rfl (Nat.le_of_ble_eq_true rfl) dC_Nam_isPut_60 ?_
      refine lv_icmp_eq (pc := 63) (tgt := 68) hx hb dC_Nam_isPut_63 (by decide) (fun hc => ?_) (fun hc => ?_)
      · replace hM := it_t hc hM
        refine lv_iinc (pc := 68) (v := x4 + (1 : Int32)) (lv' := [(4, .int (x4 + (1 : Int32))), (0, .ref (o 16)), (1, .int x1), (2, .int x2), (3, .int x3)]) hx hb dC_Nam_isPut_68 hl (k := 4) rfl rfl (by decide) rfl (fun ls hl => ?_)
        refine lv_goto (pc := 71) (tgt := 39) hx hb dC_Nam_isPut_71 (by decide) ?_
        exact hrec39 _ _ _ _ _ hM hW _ (lv_sub hl [1, 2, 3, 4, 0] rfl)
      · replace hM := it_f hc hM
        refine lv_iconst (pc := 66) (v := 0) hx hb dC_Nam_isPut_66 (by decide) ?_
        obtain rfl := sm_i hM
        exact x_retSz (pc := 67) C.1 rfl (by decide) dC_Nam_isPut_67
def C_Nam_isPut (N : Nat) (x1 : Int32) (sN : CS) : Option Int32 :=
  cr (C_Row_get  (sN.1 100) (rg sN 7)) (fun r1 => cr (C_Nam_lengthOf  x1 sN) (fun r2 => (if r2 = ((sN.1 108) - r1) then C_Nam_isPut_39 N  N x1 r1 r2 (0 : Int32) sN else some (0 : Int32))))
set_option maxHeartbeats 4000000 in
set_option maxRecDepth 100000 in
theorem bC_Nam_isPut_0 (N : Nat)  {r : Int32} (C : CxC R_Nam p s m args meth c cC_Nam_isPut 5 (some .boolean) D dA z A) (x1 : Int32) (sN : CS) (hM : C_Nam_isPut N  x1 sN = some r) (hW : WdC D A s (w_Nam dA o b sN) s.heap []) (ls : Array Slot) (hl : lv_has ls 5 [(0, .ref (o 16)), (1, .int x1)]) : W p l e (rmC 2 43 0 0) s m args below meth c s.heap [] 0 0 (MQ below (QS (some (.int r))) args s 0 0 (fun _ => False)) (F0 m 0 ls []) := by
  have hx := C.1.1
  have hb := C.1.2.1
  have hown := C.1.2.2.2.2.1
  have hT := C.1.2.2.2.2.2.1
  unfold C_Nam_isPut at hM
  refine lv_aload_n (pc := 0) hx hb dC_Nam_isPut_0 rfl (lv_at hl 0 rfl) ?_
  refine x_getC (pc := 1) C hW 0 rfl (ci := 2) rfl i_Nam 11 (by decide) qc_234 rfl rfl dC_Nam_isPut_1 ?_
  refine lv_aload_n (pc := 4) hx hb dC_Nam_isPut_4 rfl (lv_at hl 0 rfl) ?_
  refine x_getC (pc := 5) C hW 0 rfl (ci := 2) rfl i_Nam 0 (by decide) qc_215 rfl rfl dC_Nam_isPut_5 ?_
  refine x_getC (pc := 8) C hW 1 rfl (ci := 1) rfl i_Row 0 (by decide) qc_53 rfl rfl dC_Nam_isPut_8 ?_
  obtain ⟨r1, hr1, hM⟩ := cr_some hM
  refine x_callQ (pc := 11) (n' := 20) (ov := some (.int r1)) C hW (kC_Row_get l D dA z (fun _ => o 24) (fun _ => b 24)  (sN.1 100) (rg sN 7) hr1) [15, 16, 0, 1, 2, 3, 4, 5, 6, 7, 8, 9, 10, 11, 12, 13, 14, 17, 18, 19] rfl (by decide +kernel) rfl (ci := 1) rfl (q0 := 15) rfl gC_Nam_102 ⟨rfl, by decide, by decide, by decide +kernel⟩ ⟨Nat.le_of_ble_eq_true rfl, Nat.le_of_ble_eq_true rfl⟩ ⟨Nat.le_refl _, Nat.le_refl _⟩ (As := [.int (sN.1 100)]) (n := 1) rfl hl.1 rfl (Nat.le_of_ble_eq_true rfl) dC_Nam_isPut_11 ?_
  refine lv_istore_n (pc := 14) (lv' := [(2, .int r1), (0, .ref (o 16)), (1, .int x1)]) hx hb dC_Nam_isPut_14 rfl hl (by decide) rfl (fun ls hl => ?_)
  refine lv_aload_n (pc := 15) hx hb dC_Nam_isPut_15 rfl (lv_at hl 1 rfl) ?_
  refine lv_iload_n (pc := 16) hx hb dC_Nam_isPut_16 rfl (lv_at hl 2 rfl) ?_
  obtain ⟨r2, hr2, hM⟩ := cr_some hM
  refine x_callQ (pc := 17) (n' := 20) (ov := some (.int r2)) C hW (kC_Nam_lengthOf l D dA z o b  x1 sN hr2) [0, 1, 2, 3, 4, 5, 6, 7, 8, 9, 10, 11, 12, 13, 14, 15, 16, 17, 18, 19] rfl (by decide +kernel) rfl (ci := 2) rfl (q0 := 0) rfl gC_Nam_117 ⟨rfl, by decide, by decide, by decide +kernel⟩ ⟨Nat.le_of_ble_eq_true rfl, Nat.le_of_ble_eq_true rfl⟩ ⟨Nat.le_refl _, Nat.le_refl _⟩ (As := [.int x1]) (n := 1) rfl hl.1 rfl (Nat.le_of_ble_eq_true rfl) dC_Nam_isPut_17 ?_
  refine lv_istore_n (pc := 20) (lv' := [(3, .int r2), (2, .int r1), (0, .ref (o 16)), (1, .int x1)]) hx hb dC_Nam_isPut_20 rfl hl (by decide) rfl (fun ls hl => ?_)
  refine lv_iload_n (pc := 21) hx hb dC_Nam_isPut_21 rfl (lv_at hl 0 rfl) ?_
  refine lv_aload_n (pc := 22) hx hb dC_Nam_isPut_22 rfl (lv_at hl 2 rfl) ?_
  refine x_getC (pc := 23) C hW 0 rfl (ci := 2) rfl i_Nam 12 (by decide) qc_235 rfl rfl dC_Nam_isPut_23 ?_
  refine x_getC (pc := 26) C hW 17 rfl (ci := 1) rfl i_Row 0 (by decide) qc_53 rfl rfl dC_Nam_isPut_26 ?_
  refine lv_iload_n (pc := 29) hx hb dC_Nam_isPut_29 rfl (lv_at hl 1 rfl) ?_
  refine lv_isub (pc := 30) hx hb dC_Nam_isPut_30 ?_
  refine lv_icmp_eq (pc := 31) (tgt := 36) hx hb dC_Nam_isPut_31 (by decide) (fun hc => ?_) (fun hc => ?_)
  · replace hM := it_t hc hM
    refine lv_iconst (pc := 36) (v := 0) hx hb dC_Nam_isPut_36 (by decide) ?_
    refine lv_istore (pc := 37) (lv' := [(4, .int (0 : Int32)), (3, .int r2), (2, .int r1), (0, .ref (o 16)), (1, .int x1)]) hx hb dC_Nam_isPut_37 hl (by decide) rfl (fun ls hl => ?_)
    exact bC_Nam_isPut_39 N  C  N _ _ _ _ _ hM hW _ (lv_sub hl [3, 4, 2, 1, 0] rfl)
  · replace hM := it_f hc hM
    refine lv_iconst (pc := 34) (v := 0) hx hb dC_Nam_isPut_34 (by decide) ?_
    obtain rfl := sm_i hM
    exact x_retSz (pc := 35) C.1 rfl (by decide) dC_Nam_isPut_35
theorem kC_Nam_isPut (l : Launch) (D : va_G) (dA : Nat → ClassId) (z : Nat → Nat) (o b : Nat → Nat) (N : Nat) (x1 : Int32) (sN : CS) {r : Int32} (hM : C_Nam_isPut N x1 sN = some r) : KQ l D dA z yC_Nam_isPut cC_Nam_isPut 5 (some .boolean) 2 43 (w_Nam dA o b sN) [.ref (o 16), .int x1] (some (.int r)) := x_enterQ (by decide +kernel) (Nat.le_of_ble_eq_true rfl) (fun p e s m args below meth c A C hW ls hl => bC_Nam_isPut_0 N C x1 sN hM hW ls hl)
def C_Nam_finish_95 (N : Nat) (x1 : Int32) (sN : CS) : Option ((Int32 × CS) × (Nat × Nat)) :=
  gd (inB x1 (sN.2.2 20)) (ct (C_Row_add  (sN.2.1 20 x1.toNatClampNeg) (rg sN 5)) (fun r2 u3 => bnd (rs sN 5 u3) (fun sN9 => ct (C_Row_add  x1 (rg sN9 6)) (fun r10 u11 => bnd (rs sN9 6 u11) (fun sN17 => ct (C_Row_add  (sN17.1 108) (rg sN17 7)) (fun r18 u19 => bnd (rs sN17 7 u19) (fun sN25 => ct (C_Row_add  (0 : Int32) (rg sN25 0)) (fun r26 u27 => bnd (rs sN25 0 u27) (fun sN33 => ct (C_Row_add  (0 : Int32) (rg sN33 1)) (fun r34 u35 => bnd (rs sN33 1 u35) (fun sN41 => gd (inB x1 (sN41.2.2 20)) (bnd (cA sN41 20 x1.toNatClampNeg (sN41.1 100)) (fun sN43 => some (((sN43.1 100) - (1 : Int32), sN43), (0, 0)))))))))))))))
set_option maxHeartbeats 4000000 in
set_option maxRecDepth 100000 in
theorem bC_Nam_finish_95 (N : Nat)  {r : Int32} {u : CS} {DC DS : Nat} (C : CxC R_Nam p s m args meth c cC_Nam_finish 4 (some .int) D dA z A) (x1 : Int32) (sN : CS) (dc ds kc ks : Nat) (hM : C_Nam_finish_95 N  x1 sN = some ((r, u), (dc, ds))) (hdc : kc + dc ≤ DC) (hds : ks + ds ≤ DS) (b : Nat → Nat) (H : Heap) (locs : List Loc) (hW : WdC D A s (w_Nam dA o b sN) H locs) (ls : Array Slot) (hl : lv_has ls 4 [(0, .ref (o 16)), (1, .int x1)]) : W p l e (rmC 3 123 DC DS) s m args below meth c H locs kc ks (MQ below (QC D A (fun Ws' ov => ∃ b' : Nat → Nat, Ws' = (w_Nam dA o b' u) ∧ ov = (some (.int r)))) args s DC DS A) (F0 m 95 ls []) := by
  have hx := C.1.1
  have hb := C.1.2.1
  have hown := C.1.2.2.2.2.1
  have hT := C.1.2.2.2.2.2.1
  unfold C_Nam_finish_95 at hM
  refine lv_aload_n (pc := 95) hx hb dC_Nam_finish_95 rfl (lv_at hl 0 rfl) ?_
  refine x_getC (pc := 96) C hW 0 rfl (ci := 2) rfl i_Nam 9 (by decide) qc_232 rfl rfl dC_Nam_finish_96 ?_
  refine lv_aload_n (pc := 99) hx hb dC_Nam_finish_99 rfl (lv_at hl 0 rfl) ?_
  refine x_getC (pc := 100) C hW 0 rfl (ci := 2) rfl i_Nam 8 (by decide) qc_231 rfl rfl dC_Nam_finish_100 ?_
  refine lv_iload_n (pc := 103) hx hb dC_Nam_finish_103 rfl (lv_at hl 1 rfl) ?_
  obtain ⟨hg1, hM⟩ := gd_some hM
  refine x_ldIC (pc := 104) C hW 19 rfl hg1 dC_Nam_finish_104 ?_
  obtain ⟨r2, u3, da4, ea5, db6, eb7, hr2, hM, hqda4, hpda4⟩ := ct_some hM
  refine x_callC (pc := 105) (n' := 20) C hW (kC_Row_add l D dA z (fun _ => o 22) (fun _ => b 22)  (sN.2.1 20 x1.toNatClampNeg) (rg sN 5) hr2) [11, 12, 0, 1, 2, 3, 4, 5, 6, 7, 8, 9, 10, 13, 14, 15, 16, 17, 18, 19] rfl (by decide +kernel) rfl (ci := 1) rfl (q0 := 11) rfl gC_Nam_48 ⟨rfl, by decide, by decide, by decide +kernel⟩ ⟨Nat.le_of_ble_eq_true rfl, Nat.le_of_ble_eq_true rfl⟩ ⟨show _ + da4 ≤ DC by omega, show _ + ea5 ≤ DS by omega⟩ (As := [.int (sN.2.1 20 x1.toNatClampNeg)]) (n := 1) rfl hl.1 rfl (Nat.le_of_ble_eq_true rfl) dC_Nam_finish_105 (fun Wc' ov H locs hPo hWn => ?_)
  obtain ⟨b8, rfl, rfl⟩ := hPo
  have hW := hWn (w_Nam dA o (uN b 22 (b8 0)) (rs sN 5 u3)) rfl rfl
  generalize uN b 22 (b8 0) = b at hW
  obtain ⟨sN9, esN9, hM⟩ := bnd_some hM
  rw [← esN9] at hW
  refine lv_aload_n (pc := 108) hx hb dC_Nam_finish_108 rfl (lv_at hl 0 rfl) ?_
  refine x_getC (pc := 109) C hW 0 rfl (ci := 2) rfl i_Nam 10 (by decide) qc_233 rfl rfl dC_Nam_finish_109 ?_
  refine lv_iload_n (pc := 112) hx hb dC_Nam_finish_112 rfl (lv_at hl 1 rfl) ?_
  obtain ⟨r10, u11, da12, ea13, db14, eb15, hr10, hM, hqda12, hpda12⟩ := ct_some hM
  refine x_callC (pc := 113) (n' := 20) C hW (kC_Row_add l D dA z (fun _ => o 23) (fun _ => b 23)  x1 (rg sN9 6) hr10) [13, 14, 0, 1, 2, 3, 4, 5, 6, 7, 8, 9, 10, 11, 12, 15, 16, 17, 18, 19] rfl (by decide +kernel) rfl (ci := 1) rfl (q0 := 13) rfl gC_Nam_48 ⟨rfl, by decide, by decide, by decide +kernel⟩ ⟨Nat.le_of_ble_eq_true rfl, Nat.le_of_ble_eq_true rfl⟩ ⟨show _ + da12 ≤ DC by omega, show _ + ea13 ≤ DS by omega⟩ (As := [.int x1]) (n := 1) rfl hl.1 rfl (Nat.le_of_ble_eq_true rfl) dC_Nam_finish_113 (fun Wc' ov H locs hPo hWn => ?_)
  obtain ⟨b16, rfl, rfl⟩ := hPo
  have hW := hWn (w_Nam dA o (uN b 23 (b16 0)) (rs sN9 6 u11)) rfl rfl
  generalize uN b 23 (b16 0) = b at hW
  obtain ⟨sN17, esN17, hM⟩ := bnd_some hM
  rw [← esN17] at hW
  refine lv_aload_n (pc := 116) hx hb dC_Nam_finish_116 rfl (lv_at hl 0 rfl) ?_
  refine x_getC (pc := 117) C hW 0 rfl (ci := 2) rfl i_Nam 11 (by decide) qc_234 rfl rfl dC_Nam_finish_117 ?_
  refine lv_aload_n (pc := 120) hx hb dC_Nam_finish_120 rfl (lv_at hl 0 rfl) ?_
  refine x_getC (pc := 121) C hW 0 rfl (ci := 2) rfl i_Nam 12 (by decide) qc_235 rfl rfl dC_Nam_finish_121 ?_
  refine x_getC (pc := 124) C hW 17 rfl (ci := 1) rfl i_Row 0 (by decide) qc_53 rfl rfl dC_Nam_finish_124 ?_
  obtain ⟨r18, u19, da20, ea21, db22, eb23, hr18, hM, hqda20, hpda20⟩ := ct_some hM
  refine x_callC (pc := 127) (n' := 20) C hW (kC_Row_add l D dA z (fun _ => o 24) (fun _ => b 24)  (sN17.1 108) (rg sN17 7) hr18) [15, 16, 0, 1, 2, 3, 4, 5, 6, 7, 8, 9, 10, 11, 12, 13, 14, 17, 18, 19] rfl (by decide +kernel) rfl (ci := 1) rfl (q0 := 15) rfl gC_Nam_48 ⟨rfl, by decide, by decide, by decide +kernel⟩ ⟨Nat.le_of_ble_eq_true rfl, Nat.le_of_ble_eq_true rfl⟩ ⟨show _ + da20 ≤ DC by omega, show _ + ea21 ≤ DS by omega⟩ (As := [.int (sN17.1 108)]) (n := 1) rfl hl.1 rfl (Nat.le_of_ble_eq_true rfl) dC_Nam_finish_127 (fun Wc' ov H locs hPo hWn => ?_)
  obtain ⟨b24, rfl, rfl⟩ := hPo
  have hW := hWn (w_Nam dA o (uN b 24 (b24 0)) (rs sN17 7 u19)) rfl rfl
  generalize uN b 24 (b24 0) = b at hW
  obtain ⟨sN25, esN25, hM⟩ := bnd_some hM
  rw [← esN25] at hW
  refine lv_aload_n (pc := 130) hx hb dC_Nam_finish_130 rfl (lv_at hl 0 rfl) ?_
  refine x_getC (pc := 131) C hW 0 rfl (ci := 2) rfl i_Nam 0 (by decide) qc_215 rfl rfl dC_Nam_finish_131 ?_
  refine lv_iconst (pc := 134) (v := 0) hx hb dC_Nam_finish_134 (by decide) ?_
  obtain ⟨r26, u27, da28, ea29, db30, eb31, hr26, hM, hqda28, hpda28⟩ := ct_some hM
  refine x_callC (pc := 135) (n' := 20) C hW (kC_Row_add l D dA z (fun _ => o 17) (fun _ => b 17)  (0 : Int32) (rg sN25 0) hr26) [1, 2, 0, 3, 4, 5, 6, 7, 8, 9, 10, 11, 12, 13, 14, 15, 16, 17, 18, 19] rfl (by decide +kernel) rfl (ci := 1) rfl (q0 := 1) rfl gC_Nam_48 ⟨rfl, by decide, by decide, by decide +kernel⟩ ⟨Nat.le_of_ble_eq_true rfl, Nat.le_of_ble_eq_true rfl⟩ ⟨show _ + da28 ≤ DC by omega, show _ + ea29 ≤ DS by omega⟩ (As := [.int (0 : Int32)]) (n := 1) rfl hl.1 rfl (Nat.le_of_ble_eq_true rfl) dC_Nam_finish_135 (fun Wc' ov H locs hPo hWn => ?_)
  obtain ⟨b32, rfl, rfl⟩ := hPo
  have hW := hWn (w_Nam dA o (uN b 17 (b32 0)) (rs sN25 0 u27)) rfl rfl
  generalize uN b 17 (b32 0) = b at hW
  obtain ⟨sN33, esN33, hM⟩ := bnd_some hM
  rw [← esN33] at hW
  refine lv_aload_n (pc := 138) hx hb dC_Nam_finish_138 rfl (lv_at hl 0 rfl) ?_
  refine x_getC (pc := 139) C hW 0 rfl (ci := 2) rfl i_Nam 1 (by decide) qc_217 rfl rfl dC_Nam_finish_139 ?_
  refine lv_iconst (pc := 142) (v := 0) hx hb dC_Nam_finish_142 (by decide) ?_
  obtain ⟨r34, u35, da36, ea37, db38, eb39, hr34, hM, hqda36, hpda36⟩ := ct_some hM
  refine x_callC (pc := 143) (n' := 20) C hW (kC_Row_add l D dA z (fun _ => o 18) (fun _ => b 18)  (0 : Int32) (rg sN33 1) hr34) [3, 4, 0, 1, 2, 5, 6, 7, 8, 9, 10, 11, 12, 13, 14, 15, 16, 17, 18, 19] rfl (by decide +kernel) rfl (ci := 1) rfl (q0 := 3) rfl gC_Nam_48 ⟨rfl, by decide, by decide, by decide +kernel⟩ ⟨Nat.le_of_ble_eq_true rfl, Nat.le_of_ble_eq_true rfl⟩ ⟨show _ + da36 ≤ DC by omega, show _ + ea37 ≤ DS by omega⟩ (As := [.int (0 : Int32)]) (n := 1) rfl hl.1 rfl (Nat.le_of_ble_eq_true rfl) dC_Nam_finish_143 (fun Wc' ov H locs hPo hWn => ?_)
  obtain ⟨b40, rfl, rfl⟩ := hPo
  have hW := hWn (w_Nam dA o (uN b 18 (b40 0)) (rs sN33 1 u35)) rfl rfl
  generalize uN b 18 (b40 0) = b at hW
  obtain ⟨sN41, esN41, hM⟩ := bnd_some hM
  rw [← esN41] at hW
  refine lv_aload_n (pc := 146) hx hb dC_Nam_finish_146 rfl (lv_at hl 0 rfl) ?_
  refine x_getC (pc := 147) C hW 0 rfl (ci := 2) rfl i_Nam 8 (by decide) qc_231 rfl rfl dC_Nam_finish_147 ?_
  refine lv_iload_n (pc := 150) hx hb dC_Nam_finish_150 rfl (lv_at hl 1 rfl) ?_
  refine lv_aload_n (pc := 151) hx hb dC_Nam_finish_151 rfl (lv_at hl 0 rfl) ?_
  refine x_getC (pc := 152) C hW 0 rfl (ci := 2) rfl i_Nam 0 (by decide) qc_215 rfl rfl dC_Nam_finish_152 ?_
  refine x_getC (pc := 155) C hW 1 rfl (ci := 1) rfl i_Row 0 (by decide) qc_53 rfl rfl dC_Nam_finish_155 ?_
  obtain ⟨hg42, hM⟩ := gd_some hM
  refine x_stIC (pc := 158) (Ws' := (w_Nam dA o b (cA sN41 20 x1.toNatClampNeg (sN41.1 100)))) C hW 19 rfl hg42 rfl dC_Nam_finish_158 (fun H locs hW => ?_)
  obtain ⟨sN43, esN43, hM⟩ := bnd_some hM
  rw [← esN43] at hW
  refine lv_aload_n (pc := 159) hx hb dC_Nam_finish_159 rfl (lv_at hl 0 rfl) ?_
  refine x_getC (pc := 160) C hW 0 rfl (ci := 2) rfl i_Nam 0 (by decide) qc_215 rfl rfl dC_Nam_finish_160 ?_
  refine x_getC (pc := 163) C hW 1 rfl (ci := 1) rfl i_Row 0 (by decide) qc_53 rfl rfl dC_Nam_finish_163 ?_
  refine lv_iconst (pc := 166) (v := 1) hx hb dC_Nam_finish_166 (by decide) ?_
  refine lv_isub (pc := 167) hx hb dC_Nam_finish_167 ?_
  obtain ⟨rfl, rfl, rfl, rfl⟩ := sm_q hM
  exact x_retCi (pc := 168) C rfl hW ⟨_, rfl, rfl⟩ (by omega) (by omega) dC_Nam_finish_168
def C_Nam_finish_39 (N : Nat)  : Nat → Int32 → Int32 → Int32 → CS → Option ((Int32 × CS) × (Nat × Nat))
  | 0 => fun _ _ _ _ => none
  | n + 1 => fun x1 x2 x3 sN => (if x3 ≤ 0 then C_Nam_finish_95 N  x1 sN else (if x2 < 0 then C_Nam_finish_95 N  x1 sN else cr (C_Nam_isPut N x2 sN) (fun r1 => (if r1 = 0 then cr (C_Row_get  x2 (rg sN 5)) (fun r2 => (C_Nam_finish_39 N  n) x1 (r2 - (1 : Int32)) (x3 + (-1 : Int32)) sN) else cr (C_Row_get  (sN.1 100) (rg sN 7)) (fun r3 => cl (C_Row_cut  r3 (rg sN 8)) (fun r4 u5 => bnd (rs sN 8 u5) (fun sN6 => some ((x2, sN6), (0, 0)))))))))
set_option maxHeartbeats 4000000 in
set_option maxRecDepth 100000 in
theorem bC_Nam_finish_39 (N : Nat)  {r : Int32} {u : CS} {DC DS : Nat} (C : CxC R_Nam p s m args meth c cC_Nam_finish 4 (some .int) D dA z A) : ∀ (n : Nat) (x1 : Int32) (x2 : Int32) (x3 : Int32) (sN : CS) (dc ds kc ks : Nat) , C_Nam_finish_39 N  n x1 x2 x3 sN = some ((r, u), (dc, ds)) → ∀ (hdc : kc + dc ≤ DC) (hds : ks + ds ≤ DS) (b : Nat → Nat) (H : Heap) (locs : List Loc) (hW : WdC D A s (w_Nam dA o b sN) H locs) (ls : Array Slot) (hl : lv_has ls 4 [(0, .ref (o 16)), (1, .int x1), (2, .int x2), (3, .int x3)]), W p l e (rmC 3 123 DC DS) s m args below meth c H locs kc ks (MQ below (QC D A (fun Ws' ov => ∃ b' : Nat → Nat, Ws' = (w_Nam dA o b' u) ∧ ov = (some (.int r)))) args s DC DS A) (F0 m 39 ls []) := by
  have hx := C.1.1
  have hb := C.1.2.1
  have hown := C.1.2.2.2.2.1
  have hT := C.1.2.2.2.2.2.1
  intro n
  induction n with
  | zero => intro x1 x2 x3 sN dc ds kc ks hM; cases hM
  | succ n hrec39 =>
    intro x1 x2 x3 sN dc ds kc ks hM hdc hds b H locs hW ls hl
    rw [C_Nam_finish_39] at hM
    refine lv_iload_n (pc := 39) hx hb dC_Nam_finish_39 rfl (lv_at hl 3 rfl) ?_
    refine lv_if_le (pc := 40) (tgt := 95) hx hb dC_Nam_finish_40 (by decide) (fun hc => ?_) (fun hc => ?_)
    · replace hM := it_t hc hM
      exact bC_Nam_finish_95 N  C  _ _ _ _ _ _ hM (by omega) (by omega) _ _ _ hW _ (lv_sub hl [0, 1] rfl)
    · replace hM := it_f hc hM
      refine lv_iload_n (pc := 43) hx hb dC_Nam_finish_43 rfl (lv_at hl 2 rfl) ?_
      refine lv_if_lt (pc := 44) (tgt := 95) hx hb dC_Nam_finish_44 (by decide) (fun hc => ?_) (fun hc => ?_)
      · replace hM := it_t hc hM
        exact bC_Nam_finish_95 N  C  _ _ _ _ _ _ hM (by omega) (by omega) _ _ _ hW _ (lv_sub hl [0, 1] rfl)
      · replace hM := it_f hc hM
        refine lv_aload_n (pc := 47) hx hb dC_Nam_finish_47 rfl (lv_at hl 0 rfl) ?_
        refine lv_iload_n (pc := 48) hx hb dC_Nam_finish_48 rfl (lv_at hl 2 rfl) ?_
        obtain ⟨r1, hr1, hM⟩ := cr_some hM
        refine x_callQ (pc := 49) (n' := 20) (ov := some (.int r1)) C hW (kC_Nam_isPut l D dA z o b N x2 sN hr1) [0, 1, 2, 3, 4, 5, 6, 7, 8, 9, 10, 11, 12, 13, 14, 15, 16, 17, 18, 19] rfl (by decide +kernel) rfl (ci := 2) rfl (q0 := 0) rfl gC_Nam_98 ⟨rfl, by decide, by decide, by decide +kernel⟩ ⟨Nat.le_of_ble_eq_true rfl, Nat.le_of_ble_eq_true rfl⟩ ⟨show _ ≤ DC by omega, show _ ≤ DS by omega⟩ (As := [.int x2]) (n := 1) rfl hl.1 rfl (Nat.le_of_ble_eq_true rfl) dC_Nam_finish_49 ?_
        refine lv_if_eq (pc := 52) (tgt := 78) hx hb dC_Nam_finish_52 (by decide) (fun hc => ?_) (fun hc => ?_)
        · replace hM := it_t hc hM
          refine lv_aload_n (pc := 78) hx hb dC_Nam_finish_78 rfl (lv_at hl 0 rfl) ?_
          refine x_getC (pc := 79) C hW 0 rfl (ci := 2) rfl i_Nam 9 (by decide) qc_232 rfl rfl dC_Nam_finish_79 ?_
          refine lv_iload_n (pc := 82) hx hb dC_Nam_finish_82 rfl (lv_at hl 2 rfl) ?_
          obtain ⟨r2, hr2, hM⟩ := cr_some hM
          refine x_callQ (pc := 83) (n' := 20) (ov := some (.int r2)) C hW (kC_Row_get l D dA z (fun _ => o 22) (fun _ => b 22)  x2 (rg sN 5) hr2) [11, 12, 0, 1, 2, 3, 4, 5, 6, 7, 8, 9, 10, 13, 14, 15, 16, 17, 18, 19] rfl (by decide +kernel) rfl (ci := 1) rfl (q0 := 11) rfl gC_Nam_102 ⟨rfl, by decide, by decide, by decide +kernel⟩ ⟨Nat.le_of_ble_eq_true rfl, Nat.le_of_ble_eq_true rfl⟩ ⟨show _ ≤ DC by omega, show _ ≤ DS by omega⟩ (As := [.int x2]) (n := 1) rfl hl.1 rfl (Nat.le_of_ble_eq_true rfl) dC_Nam_finish_83 ?_
          refine lv_iconst (pc := 86) (v := 1) hx hb dC_Nam_finish_86 (by decide) ?_
          refine lv_isub (pc := 87) hx hb dC_Nam_finish_87 ?_
          refine lv_istore_n (pc := 88) (lv' := [(2, .int (r2 - (1 : Int32))), (0, .ref (o 16)), (1, .int x1), (3, .int x3)]) hx hb dC_Nam_finish_88 rfl hl (by decide) rfl (fun ls hl => ?_)
          refine lv_iinc (pc := 89) (v := x3 + (-1 : Int32)) (lv' := [(3, .int (x3 + (-1 : Int32))), (2, .int (r2 - (1 : Int32))), (0, .ref (o 16)), (1, .int x1)]) hx hb dC_Nam_finish_89 hl (k := 3) rfl rfl (by decide) rfl (fun ls hl => ?_)
          refine lv_goto (pc := 92) (tgt := 39) hx hb dC_Nam_finish_92 (by decide) ?_
          exact hrec39 _ _ _ _ _ _ _ _ hM (by omega) (by omega) _ _ _ hW _ (lv_sub hl [2, 3, 1, 0] rfl)
        · replace hM := it_f hc hM
          refine lv_aload_n (pc := 55) hx hb dC_Nam_finish_55 rfl (lv_at hl 0 rfl) ?_
          refine x_getC (pc := 56) C hW 0 rfl (ci := 2) rfl i_Nam 12 (by decide) qc_235 rfl rfl dC_Nam_finish_56 ?_
          refine lv_aload_n (pc := 59) hx hb dC_Nam_finish_59 rfl (lv_at hl 0 rfl) ?_
          refine x_getC (pc := 60) C hW 0 rfl (ci := 2) rfl i_Nam 11 (by decide) qc_234 rfl rfl dC_Nam_finish_60 ?_
          refine lv_aload_n (pc := 63) hx hb dC_Nam_finish_63 rfl (lv_at hl 0 rfl) ?_
          refine x_getC (pc := 64) C hW 0 rfl (ci := 2) rfl i_Nam 0 (by decide) qc_215 rfl rfl dC_Nam_finish_64 ?_
          refine x_getC (pc := 67) C hW 1 rfl (ci := 1) rfl i_Row 0 (by decide) qc_53 rfl rfl dC_Nam_finish_67 ?_
          obtain ⟨r3, hr3, hM⟩ := cr_some hM
          refine x_callQ (pc := 70) (n' := 20) (ov := some (.int r3)) C hW (kC_Row_get l D dA z (fun _ => o 24) (fun _ => b 24)  (sN.1 100) (rg sN 7) hr3) [15, 16, 0, 1, 2, 3, 4, 5, 6, 7, 8, 9, 10, 11, 12, 13, 14, 17, 18, 19] rfl (by decide +kernel) rfl (ci := 1) rfl (q0 := 15) rfl gC_Nam_102 ⟨rfl, by decide, by decide, by decide +kernel⟩ ⟨Nat.le_of_ble_eq_true rfl, Nat.le_of_ble_eq_true rfl⟩ ⟨show _ ≤ DC by omega, show _ ≤ DS by omega⟩ (As := [.int (sN.1 100)]) (n := 1) rfl hl.1 rfl (Nat.le_of_ble_eq_true rfl) dC_Nam_finish_70 ?_
          obtain ⟨r4, u5, hr4, hM⟩ := cl_some hM
          refine x_callC (pc := 73) (n' := 20) C hW (kC_Row_cut l D dA z (fun _ => o 25) (fun _ => b 25)  r3 (rg sN 8) hr4) [17, 18, 0, 1, 2, 3, 4, 5, 6, 7, 8, 9, 10, 11, 12, 13, 14, 15, 16, 19] rfl (by decide +kernel) rfl (ci := 1) rfl (q0 := 17) rfl gC_Nam_106 ⟨rfl, by decide, by decide, by decide +kernel⟩ ⟨Nat.le_of_ble_eq_true rfl, Nat.le_of_ble_eq_true rfl⟩ ⟨show _ + 0 ≤ DC by omega, show _ + 0 ≤ DS by omega⟩ (As := [.int r3]) (n := 1) rfl hl.1 rfl (Nat.le_of_ble_eq_true rfl) dC_Nam_finish_73 (fun Wc' ov H locs hPo hWn => ?_)
          obtain ⟨rfl, rfl⟩ := hPo
          have hW := hWn (w_Nam dA o b (rs sN 8 u5)) rfl rfl
          obtain ⟨sN6, esN6, hM⟩ := bnd_some hM
          rw [← esN6] at hW
          refine lv_iload_n (pc := 76) hx hb dC_Nam_finish_76 rfl (lv_at hl 2 rfl) ?_
          obtain ⟨rfl, rfl, rfl, rfl⟩ := sm_q hM
          exact x_retCi (pc := 77) C rfl hW ⟨_, rfl, rfl⟩ (by omega) (by omega) dC_Nam_finish_77
def C_Nam_finish (N : Nat)  (sN : CS) : Option ((Int32 × CS) × (Nat × Nat)) :=
  bnd (((sN.1 0) ^^^ (jush (sN.1 0) (9 : Int32))) &&& (511 : Int32)) (fun y1 => bnd (cF sN 0 (0 : Int32)) (fun sN2 => gd (inB y1 (sN2.2.2 20)) (bnd ((sN2.2.1 20 y1.toNatClampNeg) - (1 : Int32)) (fun y4 => C_Nam_finish_39 N  N y1 y4 (sN2.1 100) sN2))))
set_option maxHeartbeats 4000000 in
set_option maxRecDepth 100000 in
theorem bC_Nam_finish_0 (N : Nat)  {r : Int32} {u : CS} {DC DS : Nat} (C : CxC R_Nam p s m args meth c cC_Nam_finish 4 (some .int) D dA z A)  (sN : CS) (dc ds kc ks : Nat) (hM : C_Nam_finish N   sN = some ((r, u), (dc, ds))) (hdc : kc + dc ≤ DC) (hds : ks + ds ≤ DS) (b : Nat → Nat) (H : Heap) (locs : List Loc) (hW : WdC D A s (w_Nam dA o b sN) H locs) (ls : Array Slot) (hl : lv_has ls 4 [(0, .ref (o 16))]) : W p l e (rmC 3 123 DC DS) s m args below meth c H locs kc ks (MQ below (QC D A (fun Ws' ov => ∃ b' : Nat → Nat, Ws' = (w_Nam dA o b' u) ∧ ov = (some (.int r)))) args s DC DS A) (F0 m 0 ls []) := by
  have hx := C.1.1
  have hb := C.1.2.1
  have hown := C.1.2.2.2.2.1
  have hT := C.1.2.2.2.2.2.1
  unfold C_Nam_finish at hM
  refine lv_aload_n (pc := 0) hx hb dC_Nam_finish_0 rfl (lv_at hl 0 rfl) ?_
  refine x_getC (pc := 1) C hW 0 rfl (ci := 2) rfl i_Nam 14 (by decide) qc_237 rfl rfl dC_Nam_finish_1 ?_
  refine lv_aload_n (pc := 4) hx hb dC_Nam_finish_4 rfl (lv_at hl 0 rfl) ?_
  refine x_getC (pc := 5) C hW 0 rfl (ci := 2) rfl i_Nam 14 (by decide) qc_237 rfl rfl dC_Nam_finish_5 ?_
  refine lv_bipush (pc := 8) (v := 9) hx hb dC_Nam_finish_8 (by decide) ?_
  refine lv_iushr (pc := 10) (v := jush (sN.1 0) (9 : Int32)) hx hb dC_Nam_finish_10 rfl ?_
  refine lv_ixor (pc := 11) hx hb dC_Nam_finish_11 ?_
  refine lv_sipush (pc := 12) (v := 511) hx hb dC_Nam_finish_12 (by decide) ?_
  refine lv_iand (pc := 15) hx hb dC_Nam_finish_15 ?_
  obtain ⟨y1, ey1, hM⟩ := bnd_some hM
  refine x_seti ey1 ?_
  refine lv_istore_n (pc := 16) (lv' := [(1, .int y1), (0, .ref (o 16))]) hx hb dC_Nam_finish_16 rfl hl (by decide) rfl (fun ls hl => ?_)
  refine lv_aload_n (pc := 17) hx hb dC_Nam_finish_17 rfl (lv_at hl 1 rfl) ?_
  refine lv_iconst (pc := 18) (v := 0) hx hb dC_Nam_finish_18 (by decide) ?_
  refine x_putC (pc := 19) (ty := .int) (Ws' := (w_Nam dA o b (cF sN 0 (0 : Int32)))) C hW 0 rfl (ci := 2) rfl i_Nam tok_Nam n_Nam 14 (by decide) qc_237 rfl rfl (by decide +kernel) rfl rfl (Nat.le_of_ble_eq_true rfl) rfl dC_Nam_finish_19 (fun H locs hW => ?_)
  obtain ⟨sN2, esN2, hM⟩ := bnd_some hM
  rw [← esN2] at hW
  refine lv_aload_n (pc := 22) hx hb dC_Nam_finish_22 rfl (lv_at hl 1 rfl) ?_
  refine x_getC (pc := 23) C hW 0 rfl (ci := 2) rfl i_Nam 8 (by decide) qc_231 rfl rfl dC_Nam_finish_23 ?_
  refine lv_iload_n (pc := 26) hx hb dC_Nam_finish_26 rfl (lv_at hl 0 rfl) ?_
  obtain ⟨hg3, hM⟩ := gd_some hM
  refine x_ldIC (pc := 27) C hW 19 rfl hg3 dC_Nam_finish_27 ?_
  refine lv_iconst (pc := 28) (v := 1) hx hb dC_Nam_finish_28 (by decide) ?_
  refine lv_isub (pc := 29) hx hb dC_Nam_finish_29 ?_
  obtain ⟨y4, ey4, hM⟩ := bnd_some hM
  refine x_seti ey4 ?_
  refine lv_istore_n (pc := 30) (lv' := [(2, .int y4), (1, .int y1), (0, .ref (o 16))]) hx hb dC_Nam_finish_30 rfl hl (by decide) rfl (fun ls hl => ?_)
  refine lv_aload_n (pc := 31) hx hb dC_Nam_finish_31 rfl (lv_at hl 2 rfl) ?_
  refine x_getC (pc := 32) C hW 0 rfl (ci := 2) rfl i_Nam 0 (by decide) qc_215 rfl rfl dC_Nam_finish_32 ?_
  refine x_getC (pc := 35) C hW 1 rfl (ci := 1) rfl i_Row 0 (by decide) qc_53 rfl rfl dC_Nam_finish_35 ?_
  refine lv_istore_n (pc := 38) (lv' := [(3, .int (sN2.1 100)), (2, .int y4), (1, .int y1), (0, .ref (o 16))]) hx hb dC_Nam_finish_38 rfl hl (by decide) rfl (fun ls hl => ?_)
  exact bC_Nam_finish_39 N  C  N _ _ _ _ _ _ _ _ hM (by omega) (by omega) _ _ _ hW _ (lv_sub hl [3, 2, 1, 0] rfl)
theorem kC_Nam_finish (l : Launch) (D : va_G) (dA : Nat → ClassId) (z : Nat → Nat) (o b : Nat → Nat) (N : Nat)  (sN : CS) {r : Int32} {u : CS} {dc ds : Nat} (hM : C_Nam_finish N  sN = some ((r, u), (dc, ds))) : KC l D dA z yC_Nam_finish cC_Nam_finish 4 (some .int) 3 123 dc ds (w_Nam dA o b sN) [.ref (o 16)] (fun Ws' ov => ∃ b' : Nat → Nat, Ws' = (w_Nam dA o b' u) ∧ ov = (some (.int r))) := x_enterC (by decide +kernel) (Nat.le_of_ble_eq_true rfl) (fun p e s m args below meth c A C _ hW ls hl => bC_Nam_finish_0 N C  sN dc ds 0 0 hM (by omega) (by omega) b s.heap [] hW ls hl)
def C_Nam_forget_54 (N : Nat) (rec10 : Int32 → CS → Option (Int32 × CS)) (x1 : Int32) (sN : CS) : Option (Int32 × CS) :=
  rec10 (x1 + (-1 : Int32)) sN
set_option maxHeartbeats 4000000 in
set_option maxRecDepth 100000 in
theorem bC_Nam_forget_54 (N : Nat) (rec10 : Int32 → CS → Option (Int32 × CS)) {r : Int32} {u : CS} (C : CxC R_Nam p s m args meth c cC_Nam_forget 3 none D dA z A) (hrec10 : ∀ (x1 : Int32) (sN : CS) , rec10 x1 sN = some (r, u) → ∀ (H : Heap) (locs : List Loc) (hW : WdC D A s (w_Nam dA o b sN) H locs) (ls : Array Slot) (hl : lv_has ls 3 [(0, .ref (o 16)), (1, .int x1)]), W p l e (rmC 3 69 0 0) s m args below meth c H locs 0 0 (MQ below (QC D A (fun Ws' ov => Ws' = (w_Nam dA o b u) ∧ ov = none)) args s 0 0 A) (F0 m 10 ls [])) (x1 : Int32) (sN : CS) (hM : C_Nam_forget_54 N rec10 x1 sN = some (r, u)) (H : Heap) (locs : List Loc) (hW : WdC D A s (w_Nam dA o b sN) H locs) (ls : Array Slot) (hl : lv_has ls 3 [(0, .ref (o 16)), (1, .int x1)]) : W p l e (rmC 3 69 0 0) s m args below meth c H locs 0 0 (MQ below (QC D A (fun Ws' ov => Ws' = (w_Nam dA o b u) ∧ ov = none)) args s 0 0 A) (F0 m 54 ls []) := by
  have hx := C.1.1
  have hb := C.1.2.1
  have hown := C.1.2.2.2.2.1
  have hT := C.1.2.2.2.2.2.1
  unfold C_Nam_forget_54 at hM
  refine lv_iinc (pc := 54) (v := x1 + (-1 : Int32)) (lv' := [(1, .int (x1 + (-1 : Int32))), (0, .ref (o 16))]) hx hb dC_Nam_forget_54 hl (k := 1) rfl rfl (by decide) rfl (fun ls hl => ?_)
  refine lv_goto (pc := 57) (tgt := 10) hx hb dC_Nam_forget_57 (by decide) ?_
  exact hrec10 _ _ hM _ _ hW _ (lv_sub hl [1, 0] rfl)
def C_Nam_forget_10 (N : Nat)  : Nat → Int32 → CS → Option (Int32 × CS)
  | 0 => fun _ _ => none
  | n + 1 => fun x1 sN => (if x1 < (sN.1 4) then cl (C_Row_cut  (sN.1 4) (rg sN 5)) (fun r1 u2 => bnd (rs sN 5 u2) (fun sN3 => cl (C_Row_cut  (sN3.1 4) (rg sN3 6)) (fun r4 u5 => bnd (rs sN3 6 u5) (fun sN6 => cl (C_Row_cut  ((sN6.1 4) + (1 : Int32)) (rg sN6 7)) (fun r7 u8 => bnd (rs sN6 7 u8) (fun sN9 => cr (C_Row_get  (sN9.1 4) (rg sN9 7)) (fun r10 => cl (C_Row_cut  r10 (rg sN9 8)) (fun r11 u12 => bnd (rs sN9 8 u12) (fun sN13 => cl (C_Row_cut  (sN13.1 4) (rg sN13 1)) (fun r14 u15 => bnd (rs sN13 1 u15) (fun sN16 => cl (C_Row_cut  (sN16.1 4) (rg sN16 0)) (fun r17 u18 => bnd (rs sN16 0 u18) (fun sN19 => cl (C_Row_fill N (0 : Int32) (sN19.1 4) (0 : Int32) (rg sN19 0)) (fun r20 u21 => bnd (rs sN19 0 u21) (fun sN22 => some ((0 : Int32), sN22)))))))))))))))) else cr (C_Row_get  x1 (rg sN 6)) (fun r23 => (if r23 < 0 then C_Nam_forget_54 N (C_Nam_forget_10 N  n) x1 sN else (if (nI (sN.2.2 20)) ≤ r23 then C_Nam_forget_54 N (C_Nam_forget_10 N  n) x1 sN else cr (C_Row_get  x1 (rg sN 5)) (fun r24 => gd (inB r23 (sN.2.2 20)) (bnd (cA sN 20 r23.toNatClampNeg r24) (fun sN26 => C_Nam_forget_54 N (C_Nam_forget_10 N  n) x1 sN26)))))))
set_option maxHeartbeats 4000000 in
set_option maxRecDepth 100000 in
theorem bC_Nam_forget_10 (N : Nat)  {r : Int32} {u : CS} (C : CxC R_Nam p s m args meth c cC_Nam_forget 3 none D dA z A) : ∀ (n : Nat) (x1 : Int32) (sN : CS) , C_Nam_forget_10 N  n x1 sN = some (r, u) → ∀ (H : Heap) (locs : List Loc) (hW : WdC D A s (w_Nam dA o b sN) H locs) (ls : Array Slot) (hl : lv_has ls 3 [(0, .ref (o 16)), (1, .int x1)]), W p l e (rmC 3 69 0 0) s m args below meth c H locs 0 0 (MQ below (QC D A (fun Ws' ov => Ws' = (w_Nam dA o b u) ∧ ov = none)) args s 0 0 A) (F0 m 10 ls []) := by
  have hx := C.1.1
  have hb := C.1.2.1
  have hown := C.1.2.2.2.2.1
  have hT := C.1.2.2.2.2.2.1
  intro n
  induction n with
  | zero => intro x1 sN hM; cases hM
  | succ n hrec10 =>
    intro x1 sN hM H locs hW ls hl
    rw [C_Nam_forget_10] at hM
    refine lv_iload_n (pc := 10) hx hb dC_Nam_forget_10 rfl (lv_at hl 1 rfl) ?_
    refine lv_aload_n (pc := 11) hx hb dC_Nam_forget_11 rfl (lv_at hl 0 rfl) ?_
    refine x_getC (pc := 12) C hW 0 rfl (ci := 2) rfl i_Nam 13 (by decide) qc_236 rfl rfl dC_Nam_forget_12 ?_
    refine lv_icmp_lt (pc := 15) (tgt := 60) hx hb dC_Nam_forget_15 (by decide) (fun hc => ?_) (fun hc => ?_)
    · replace hM := it_t hc hM
      refine lv_aload_n (pc := 60) hx hb dC_Nam_forget_60 rfl (lv_at hl 0 rfl) ?_
      refine x_getC (pc := 61) C hW 0 rfl (ci := 2) rfl i_Nam 9 (by decide) qc_232 rfl rfl dC_Nam_forget_61 ?_
      refine lv_aload_n (pc := 64) hx hb dC_Nam_forget_64 rfl (lv_at hl 0 rfl) ?_
      refine x_getC (pc := 65) C hW 0 rfl (ci := 2) rfl i_Nam 13 (by decide) qc_236 rfl rfl dC_Nam_forget_65 ?_
      obtain ⟨r1, u2, hr1, hM⟩ := cl_some hM
      refine x_callC (pc := 68) (n' := 20) C hW (kC_Row_cut l D dA z (fun _ => o 22) (fun _ => b 22)  (sN.1 4) (rg sN 5) hr1) [11, 12, 0, 1, 2, 3, 4, 5, 6, 7, 8, 9, 10, 13, 14, 15, 16, 17, 18, 19] rfl (by decide +kernel) rfl (ci := 1) rfl (q0 := 11) rfl gC_Nam_106 ⟨rfl, by decide, by decide, by decide +kernel⟩ ⟨Nat.le_of_ble_eq_true rfl, Nat.le_of_ble_eq_true rfl⟩ ⟨Nat.le_refl _, Nat.le_refl _⟩ (As := [.int (sN.1 4)]) (n := 1) rfl hl.1 rfl (Nat.le_of_ble_eq_true rfl) dC_Nam_forget_68 (fun Wc' ov H locs hPo hWn => ?_)
      obtain ⟨rfl, rfl⟩ := hPo
      have hW := hWn (w_Nam dA o b (rs sN 5 u2)) rfl rfl
      obtain ⟨sN3, esN3, hM⟩ := bnd_some hM
      rw [← esN3] at hW
      refine lv_aload_n (pc := 71) hx hb dC_Nam_forget_71 rfl (lv_at hl 0 rfl) ?_
      refine x_getC (pc := 72) C hW 0 rfl (ci := 2) rfl i_Nam 10 (by decide) qc_233 rfl rfl dC_Nam_forget_72 ?_
      refine lv_aload_n (pc := 75) hx hb dC_Nam_forget_75 rfl (lv_at hl 0 rfl) ?_
      refine x_getC (pc := 76) C hW 0 rfl (ci := 2) rfl i_Nam 13 (by decide) qc_236 rfl rfl dC_Nam_forget_76 ?_
      obtain ⟨r4, u5, hr4, hM⟩ := cl_some hM
      refine x_callC (pc := 79) (n' := 20) C hW (kC_Row_cut l D dA z (fun _ => o 23) (fun _ => b 23)  (sN3.1 4) (rg sN3 6) hr4) [13, 14, 0, 1, 2, 3, 4, 5, 6, 7, 8, 9, 10, 11, 12, 15, 16, 17, 18, 19] rfl (by decide +kernel) rfl (ci := 1) rfl (q0 := 13) rfl gC_Nam_106 ⟨rfl, by decide, by decide, by decide +kernel⟩ ⟨Nat.le_of_ble_eq_true rfl, Nat.le_of_ble_eq_true rfl⟩ ⟨Nat.le_refl _, Nat.le_refl _⟩ (As := [.int (sN3.1 4)]) (n := 1) rfl hl.1 rfl (Nat.le_of_ble_eq_true rfl) dC_Nam_forget_79 (fun Wc' ov H locs hPo hWn => ?_)
      obtain ⟨rfl, rfl⟩ := hPo
      have hW := hWn (w_Nam dA o b (rs sN3 6 u5)) rfl rfl
      obtain ⟨sN6, esN6, hM⟩ := bnd_some hM
      rw [← esN6] at hW
      refine lv_aload_n (pc := 82) hx hb dC_Nam_forget_82 rfl (lv_at hl 0 rfl) ?_
      refine x_getC (pc := 83) C hW 0 rfl (ci := 2) rfl i_Nam 11 (by decide) qc_234 rfl rfl dC_Nam_forget_83 ?_
      refine lv_aload_n (pc := 86) hx hb dC_Nam_forget_86 rfl (lv_at hl 0 rfl) ?_
      refine x_getC (pc := 87) C hW 0 rfl (ci := 2) rfl i_Nam 13 (by decide) qc_236 rfl rfl dC_Nam_forget_87 ?_
      refine lv_iconst (pc := 90) (v := 1) hx hb dC_Nam_forget_90 (by decide) ?_
      refine lv_iadd (pc := 91) hx hb dC_Nam_forget_91 ?_
      obtain ⟨r7, u8, hr7, hM⟩ := cl_some hM
      refine x_callC (pc := 92) (n' := 20) C hW (kC_Row_cut l D dA z (fun _ => o 24) (fun _ => b 24)  ((sN6.1 4) + (1 : Int32)) (rg sN6 7) hr7) [15, 16, 0, 1, 2, 3, 4, 5, 6, 7, 8, 9, 10, 11, 12, 13, 14, 17, 18, 19] rfl (by decide +kernel) rfl (ci := 1) rfl (q0 := 15) rfl gC_Nam_106 ⟨rfl, by decide, by decide, by decide +kernel⟩ ⟨Nat.le_of_ble_eq_true rfl, Nat.le_of_ble_eq_true rfl⟩ ⟨Nat.le_refl _, Nat.le_refl _⟩ (As := [.int ((sN6.1 4) + (1 : Int32))]) (n := 1) rfl hl.1 rfl (Nat.le_of_ble_eq_true rfl) dC_Nam_forget_92 (fun Wc' ov H locs hPo hWn => ?_)
      obtain ⟨rfl, rfl⟩ := hPo
      have hW := hWn (w_Nam dA o b (rs sN6 7 u8)) rfl rfl
      obtain ⟨sN9, esN9, hM⟩ := bnd_some hM
      rw [← esN9] at hW
      refine lv_aload_n (pc := 95) hx hb dC_Nam_forget_95 rfl (lv_at hl 0 rfl) ?_
      refine x_getC (pc := 96) C hW 0 rfl (ci := 2) rfl i_Nam 12 (by decide) qc_235 rfl rfl dC_Nam_forget_96 ?_
      refine lv_aload_n (pc := 99) hx hb dC_Nam_forget_99 rfl (lv_at hl 0 rfl) ?_
      refine x_getC (pc := 100) C hW 0 rfl (ci := 2) rfl i_Nam 11 (by decide) qc_234 rfl rfl dC_Nam_forget_100 ?_
      refine lv_aload_n (pc := 103) hx hb dC_Nam_forget_103 rfl (lv_at hl 0 rfl) ?_
      refine x_getC (pc := 104) C hW 0 rfl (ci := 2) rfl i_Nam 13 (by decide) qc_236 rfl rfl dC_Nam_forget_104 ?_
      obtain ⟨r10, hr10, hM⟩ := cr_some hM
      refine x_callQ (pc := 107) (n' := 20) (ov := some (.int r10)) C hW (kC_Row_get l D dA z (fun _ => o 24) (fun _ => b 24)  (sN9.1 4) (rg sN9 7) hr10) [15, 16, 0, 1, 2, 3, 4, 5, 6, 7, 8, 9, 10, 11, 12, 13, 14, 17, 18, 19] rfl (by decide +kernel) rfl (ci := 1) rfl (q0 := 15) rfl gC_Nam_102 ⟨rfl, by decide, by decide, by decide +kernel⟩ ⟨Nat.le_of_ble_eq_true rfl, Nat.le_of_ble_eq_true rfl⟩ ⟨Nat.le_refl _, Nat.le_refl _⟩ (As := [.int (sN9.1 4)]) (n := 1) rfl hl.1 rfl (Nat.le_of_ble_eq_true rfl) dC_Nam_forget_107 ?_
      obtain ⟨r11, u12, hr11, hM⟩ := cl_some hM
      refine x_callC (pc := 110) (n' := 20) C hW (kC_Row_cut l D dA z (fun _ => o 25) (fun _ => b 25)  r10 (rg sN9 8) hr11) [17, 18, 0, 1, 2, 3, 4, 5, 6, 7, 8, 9, 10, 11, 12, 13, 14, 15, 16, 19] rfl (by decide +kernel) rfl (ci := 1) rfl (q0 := 17) rfl gC_Nam_106 ⟨rfl, by decide, by decide, by decide +kernel⟩ ⟨Nat.le_of_ble_eq_true rfl, Nat.le_of_ble_eq_true rfl⟩ ⟨Nat.le_refl _, Nat.le_refl _⟩ (As := [.int r10]) (n := 1) rfl hl.1 rfl (Nat.le_of_ble_eq_true rfl) dC_Nam_forget_110 (fun Wc' ov H locs hPo hWn => ?_)
      obtain ⟨rfl, rfl⟩ := hPo
      have hW := hWn (w_Nam dA o b (rs sN9 8 u12)) rfl rfl
      obtain ⟨sN13, esN13, hM⟩ := bnd_some hM
      rw [← esN13] at hW
      refine lv_aload_n (pc := 113) hx hb dC_Nam_forget_113 rfl (lv_at hl 0 rfl) ?_
      refine x_getC (pc := 114) C hW 0 rfl (ci := 2) rfl i_Nam 1 (by decide) qc_217 rfl rfl dC_Nam_forget_114 ?_
      refine lv_aload_n (pc := 117) hx hb dC_Nam_forget_117 rfl (lv_at hl 0 rfl) ?_
      refine x_getC (pc := 118) C hW 0 rfl (ci := 2) rfl i_Nam 13 (by decide) qc_236 rfl rfl dC_Nam_forget_118 ?_
      obtain ⟨r14, u15, hr14, hM⟩ := cl_some hM
      refine x_callC (pc := 121) (n' := 20) C hW (kC_Row_cut l D dA z (fun _ => o 18) (fun _ => b 18)  (sN13.1 4) (rg sN13 1) hr14) [3, 4, 0, 1, 2, 5, 6, 7, 8, 9, 10, 11, 12, 13, 14, 15, 16, 17, 18, 19] rfl (by decide +kernel) rfl (ci := 1) rfl (q0 := 3) rfl gC_Nam_106 ⟨rfl, by decide, by decide, by decide +kernel⟩ ⟨Nat.le_of_ble_eq_true rfl, Nat.le_of_ble_eq_true rfl⟩ ⟨Nat.le_refl _, Nat.le_refl _⟩ (As := [.int (sN13.1 4)]) (n := 1) rfl hl.1 rfl (Nat.le_of_ble_eq_true rfl) dC_Nam_forget_121 (fun Wc' ov H locs hPo hWn => ?_)
      obtain ⟨rfl, rfl⟩ := hPo
      have hW := hWn (w_Nam dA o b (rs sN13 1 u15)) rfl rfl
      obtain ⟨sN16, esN16, hM⟩ := bnd_some hM
      rw [← esN16] at hW
      refine lv_aload_n (pc := 124) hx hb dC_Nam_forget_124 rfl (lv_at hl 0 rfl) ?_
      refine x_getC (pc := 125) C hW 0 rfl (ci := 2) rfl i_Nam 0 (by decide) qc_215 rfl rfl dC_Nam_forget_125 ?_
      refine lv_aload_n (pc := 128) hx hb dC_Nam_forget_128 rfl (lv_at hl 0 rfl) ?_
      refine x_getC (pc := 129) C hW 0 rfl (ci := 2) rfl i_Nam 13 (by decide) qc_236 rfl rfl dC_Nam_forget_129 ?_
      obtain ⟨r17, u18, hr17, hM⟩ := cl_some hM
      refine x_callC (pc := 132) (n' := 20) C hW (kC_Row_cut l D dA z (fun _ => o 17) (fun _ => b 17)  (sN16.1 4) (rg sN16 0) hr17) [1, 2, 0, 3, 4, 5, 6, 7, 8, 9, 10, 11, 12, 13, 14, 15, 16, 17, 18, 19] rfl (by decide +kernel) rfl (ci := 1) rfl (q0 := 1) rfl gC_Nam_106 ⟨rfl, by decide, by decide, by decide +kernel⟩ ⟨Nat.le_of_ble_eq_true rfl, Nat.le_of_ble_eq_true rfl⟩ ⟨Nat.le_refl _, Nat.le_refl _⟩ (As := [.int (sN16.1 4)]) (n := 1) rfl hl.1 rfl (Nat.le_of_ble_eq_true rfl) dC_Nam_forget_132 (fun Wc' ov H locs hPo hWn => ?_)
      obtain ⟨rfl, rfl⟩ := hPo
      have hW := hWn (w_Nam dA o b (rs sN16 0 u18)) rfl rfl
      obtain ⟨sN19, esN19, hM⟩ := bnd_some hM
      rw [← esN19] at hW
      refine lv_aload_n (pc := 135) hx hb dC_Nam_forget_135 rfl (lv_at hl 0 rfl) ?_
      refine x_getC (pc := 136) C hW 0 rfl (ci := 2) rfl i_Nam 0 (by decide) qc_215 rfl rfl dC_Nam_forget_136 ?_
      refine lv_iconst (pc := 139) (v := 0) hx hb dC_Nam_forget_139 (by decide) ?_
      refine lv_aload_n (pc := 140) hx hb dC_Nam_forget_140 rfl (lv_at hl 0 rfl) ?_
      refine x_getC (pc := 141) C hW 0 rfl (ci := 2) rfl i_Nam 13 (by decide) qc_236 rfl rfl dC_Nam_forget_141 ?_
      refine lv_iconst (pc := 144) (v := 0) hx hb dC_Nam_forget_144 (by decide) ?_
      obtain ⟨r20, u21, hr20, hM⟩ := cl_some hM
      refine x_callC (pc := 145) (n' := 20) C hW (kC_Row_fill l D dA z (fun _ => o 17) (fun _ => b 17) N (0 : Int32) (sN19.1 4) (0 : Int32) (rg sN19 0) hr20) [1, 2, 0, 3, 4, 5, 6, 7, 8, 9, 10, 11, 12, 13, 14, 15, 16, 17, 18, 19] rfl (by decide +kernel) rfl (ci := 1) rfl (q0 := 1) rfl gC_Nam_109 ⟨rfl, by decide, by decide, by decide +kernel⟩ ⟨Nat.le_of_ble_eq_true rfl, Nat.le_of_ble_eq_true rfl⟩ ⟨Nat.le_refl _, Nat.le_refl _⟩ (As := [.int (0 : Int32), .int (sN19.1 4), .int (0 : Int32)]) (n := 3) rfl hl.1 rfl (Nat.le_of_ble_eq_true rfl) dC_Nam_forget_145 (fun Wc' ov H locs hPo hWn => ?_)
      obtain ⟨rfl, rfl⟩ := hPo
      have hW := hWn (w_Nam dA o b (rs sN19 0 u21)) rfl rfl
      obtain ⟨sN22, esN22, hM⟩ := bnd_some hM
      rw [← esN22] at hW
      obtain ⟨rfl, rfl⟩ := sm_p hM
      exact x_retCv (pc := 148) C rfl hW ⟨rfl, rfl⟩ (Nat.le_refl 0) (Nat.le_refl 0) dC_Nam_forget_148
    · replace hM := it_f hc hM
      refine lv_aload_n (pc := 18) hx hb dC_Nam_forget_18 rfl (lv_at hl 0 rfl) ?_
      refine x_getC (pc := 19) C hW 0 rfl (ci := 2) rfl i_Nam 10 (by decide) qc_233 rfl rfl dC_Nam_forget_19 ?_
      refine lv_iload_n (pc := 22) hx hb dC_Nam_forget_22 rfl (lv_at hl 1 rfl) ?_
      obtain ⟨r23, hr23, hM⟩ := cr_some hM
      refine x_callQ (pc := 23) (n' := 20) (ov := some (.int r23)) C hW (kC_Row_get l D dA z (fun _ => o 23) (fun _ => b 23)  x1 (rg sN 6) hr23) [13, 14, 0, 1, 2, 3, 4, 5, 6, 7, 8, 9, 10, 11, 12, 15, 16, 17, 18, 19] rfl (by decide +kernel) rfl (ci := 1) rfl (q0 := 13) rfl gC_Nam_102 ⟨rfl, by decide, by decide, by decide +kernel⟩ ⟨Nat.le_of_ble_eq_true rfl, Nat.le_of_ble_eq_true rfl⟩ ⟨Nat.le_refl _, Nat.le_refl _⟩ (As := [.int x1]) (n := 1) rfl hl.1 rfl (Nat.le_of_ble_eq_true rfl) dC_Nam_forget_23 ?_
      refine lv_istore_n (pc := 26) (lv' := [(2, .int r23), (0, .ref (o 16)), (1, .int x1)]) hx hb dC_Nam_forget_26 rfl hl (by decide) rfl (fun ls hl => ?_)
      refine lv_iload_n (pc := 27) hx hb dC_Nam_forget_27 rfl (lv_at hl 0 rfl) ?_
      refine lv_if_lt (pc := 28) (tgt := 54) hx hb dC_Nam_forget_28 (by decide) (fun hc => ?_) (fun hc => ?_)
      · replace hM := it_t hc hM
        exact bC_Nam_forget_54 N _ C hrec10 _ _ hM _ _ hW _ (lv_sub hl [1, 2] rfl)
      · replace hM := it_f hc hM
        refine lv_iload_n (pc := 31) hx hb dC_Nam_forget_31 rfl (lv_at hl 0 rfl) ?_
        refine lv_aload_n (pc := 32) hx hb dC_Nam_forget_32 rfl (lv_at hl 1 rfl) ?_
        refine x_getC (pc := 33) C hW 0 rfl (ci := 2) rfl i_Nam 8 (by decide) qc_231 rfl rfl dC_Nam_forget_33 ?_
        refine x_alenC (pc := 36) C hW 19 rfl dC_Nam_forget_36 ?_
        refine lv_icmp_ge (pc := 37) (tgt := 54) hx hb dC_Nam_forget_37 (by decide) (fun hc => ?_) (fun hc => ?_)
        · replace hM := it_t hc hM
          exact bC_Nam_forget_54 N _ C hrec10 _ _ hM _ _ hW _ (lv_sub hl [1, 2] rfl)
        · replace hM := it_f hc hM
          refine lv_aload_n (pc := 40) hx hb dC_Nam_forget_40 rfl (lv_at hl 1 rfl) ?_
          refine x_getC (pc := 41) C hW 0 rfl (ci := 2) rfl i_Nam 8 (by decide) qc_231 rfl rfl dC_Nam_forget_41 ?_
          refine lv_iload_n (pc := 44) hx hb dC_Nam_forget_44 rfl (lv_at hl 0 rfl) ?_
          refine lv_aload_n (pc := 45) hx hb dC_Nam_forget_45 rfl (lv_at hl 1 rfl) ?_
          refine x_getC (pc := 46) C hW 0 rfl (ci := 2) rfl i_Nam 9 (by decide) qc_232 rfl rfl dC_Nam_forget_46 ?_
          refine lv_iload_n (pc := 49) hx hb dC_Nam_forget_49 rfl (lv_at hl 2 rfl) ?_
          obtain ⟨r24, hr24, hM⟩ := cr_some hM
          refine x_callQ (pc := 50) (n' := 20) (ov := some (.int r24)) C hW (kC_Row_get l D dA z (fun _ => o 22) (fun _ => b 22)  x1 (rg sN 5) hr24) [11, 12, 0, 1, 2, 3, 4, 5, 6, 7, 8, 9, 10, 13, 14, 15, 16, 17, 18, 19] rfl (by decide +kernel) rfl (ci := 1) rfl (q0 := 11) rfl gC_Nam_102 ⟨rfl, by decide, by decide, by decide +kernel⟩ ⟨Nat.le_of_ble_eq_true rfl, Nat.le_of_ble_eq_true rfl⟩ ⟨Nat.le_refl _, Nat.le_refl _⟩ (As := [.int x1]) (n := 1) rfl hl.1 rfl (Nat.le_of_ble_eq_true rfl) dC_Nam_forget_50 ?_
          obtain ⟨hg25, hM⟩ := gd_some hM
          refine x_stIC (pc := 53) (Ws' := (w_Nam dA o b (cA sN 20 r23.toNatClampNeg r24))) C hW 19 rfl hg25 rfl dC_Nam_forget_53 (fun H locs hW => ?_)
          obtain ⟨sN26, esN26, hM⟩ := bnd_some hM
          rw [← esN26] at hW
          exact bC_Nam_forget_54 N _ C hrec10 _ _ hM _ _ hW _ (lv_sub hl [1, 2] rfl)
def C_Nam_forget (N : Nat)  (sN : CS) : Option (Int32 × CS) :=
  C_Nam_forget_10 N  N ((sN.1 100) - (1 : Int32)) sN
set_option maxHeartbeats 4000000 in
set_option maxRecDepth 100000 in
theorem bC_Nam_forget_0 (N : Nat)  {r : Int32} {u : CS} (C : CxC R_Nam p s m args meth c cC_Nam_forget 3 none D dA z A)  (sN : CS) (hM : C_Nam_forget N   sN = some (r, u)) (H : Heap) (locs : List Loc) (hW : WdC D A s (w_Nam dA o b sN) H locs) (ls : Array Slot) (hl : lv_has ls 3 [(0, .ref (o 16))]) : W p l e (rmC 3 69 0 0) s m args below meth c H locs 0 0 (MQ below (QC D A (fun Ws' ov => Ws' = (w_Nam dA o b u) ∧ ov = none)) args s 0 0 A) (F0 m 0 ls []) := by
  have hx := C.1.1
  have hb := C.1.2.1
  have hown := C.1.2.2.2.2.1
  have hT := C.1.2.2.2.2.2.1
  unfold C_Nam_forget at hM
  refine lv_aload_n (pc := 0) hx hb dC_Nam_forget_0 rfl (lv_at hl 0 rfl) ?_
  refine x_getC (pc := 1) C hW 0 rfl (ci := 2) rfl i_Nam 0 (by decide) qc_215 rfl rfl dC_Nam_forget_1 ?_
  refine x_getC (pc := 4) C hW 1 rfl (ci := 1) rfl i_Row 0 (by decide) qc_53 rfl rfl dC_Nam_forget_4 ?_
  refine lv_iconst (pc := 7) (v := 1) hx hb dC_Nam_forget_7 (by decide) ?_
  refine lv_isub (pc := 8) hx hb dC_Nam_forget_8 ?_
  refine lv_istore_n (pc := 9) (lv' := [(1, .int ((sN.1 100) - (1 : Int32))), (0, .ref (o 16))]) hx hb dC_Nam_forget_9 rfl hl (by decide) rfl (fun ls hl => ?_)
  exact bC_Nam_forget_10 N  C  N _ _ hM _ _ hW _ (lv_sub hl [1, 0] rfl)
theorem kC_Nam_forget (l : Launch) (D : va_G) (dA : Nat → ClassId) (z : Nat → Nat) (o b : Nat → Nat) (N : Nat)  (sN : CS) {r : Int32} {u : CS} (hM : C_Nam_forget N  sN = some (r, u)) : KC l D dA z yC_Nam_forget cC_Nam_forget 3 none 3 69 0 0 (w_Nam dA o b sN) [.ref (o 16)] (fun Ws' ov => Ws' = (w_Nam dA o b u) ∧ ov = none) := x_enterC (by decide +kernel) (Nat.le_of_ble_eq_true rfl) (fun p e s m args below meth c A C _ hW ls hl => bC_Nam_forget_0 N C  sN hM s.heap [] hW ls hl)
def C_Nam_finishRegister (N : Nat) (x1 : Int32) (sN : CS) : Option ((Int32 × CS) × (Nat × Nat)) :=
  ct (C_Nam_finish N sN) (fun r1 u2 => ct (C_Row_add  (0 : Int32) (rg u2 2)) (fun r8 u9 => bnd (rs u2 2 u9) (fun sN15 => ct (C_Row_add  (0 : Int32) (rg sN15 4)) (fun r16 u17 => bnd (rs sN15 4 u17) (fun sN23 => ct (C_Row_add  (x1 + (1 : Int32)) (rg sN23 3)) (fun r24 u25 => bnd (rs sN23 3 u25) (fun sN31 => some (((0 : Int32), sN31), (0, 0)))))))))
set_option maxHeartbeats 4000000 in
set_option maxRecDepth 100000 in
theorem bC_Nam_finishRegister_0 (N : Nat)  {r : Int32} {u : CS} {DC DS : Nat} (C : CxC R_Nam p s m args meth c cC_Nam_finishRegister 2 none D dA z A) (x1 : Int32) (sN : CS) (dc ds kc ks : Nat) (hM : C_Nam_finishRegister N  x1 sN = some ((r, u), (dc, ds))) (hdc : kc + dc ≤ DC) (hds : ks + ds ≤ DS) (b : Nat → Nat) (H : Heap) (locs : List Loc) (hW : WdC D A s (w_Nam dA o b sN) H locs) (ls : Array Slot) (hl : lv_has ls 2 [(0, .ref (o 16)), (1, .int x1)]) : W p l e (rmC 4 146 DC DS) s m args below meth c H locs kc ks (MQ below (QC D A (fun Ws' ov => ∃ b' : Nat → Nat, Ws' = (w_Nam dA o b' u) ∧ ov = none)) args s DC DS A) (F0 m 0 ls []) := by
  have hx := C.1.1
  have hb := C.1.2.1
  have hown := C.1.2.2.2.2.1
  have hT := C.1.2.2.2.2.2.1
  unfold C_Nam_finishRegister at hM
  refine lv_aload_n (pc := 0) hx hb dC_Nam_finishRegister_0 rfl (lv_at hl 0 rfl) ?_
  obtain ⟨r1, u2, da3, ea4, db5, eb6, hr1, hM, hqda3, hpda3⟩ := ct_some hM
  refine x_callC (pc := 1) (n' := 20) C hW (kC_Nam_finish l D dA z o b N sN hr1) [0, 1, 2, 3, 4, 5, 6, 7, 8, 9, 10, 11, 12, 13, 14, 15, 16, 17, 18, 19] rfl (by decide +kernel) rfl (ci := 2) rfl (q0 := 0) rfl gC_Nam_141 ⟨rfl, by decide, by decide, by decide +kernel⟩ ⟨Nat.le_of_ble_eq_true rfl, Nat.le_of_ble_eq_true rfl⟩ ⟨show _ + da3 ≤ DC by omega, show _ + ea4 ≤ DS by omega⟩ (As := []) (n := 0) rfl hl.1 rfl (Nat.le_of_ble_eq_true rfl) dC_Nam_finishRegister_1 (fun Wc' ov H locs hPo hWn => ?_)
  obtain ⟨b7, rfl, rfl⟩ := hPo
  have hW := hWn (w_Nam dA o (mxs [1] b7 b) u2) rfl rfl
  generalize mxs [1] b7 b = b at hW
  refine lv_pop (pc := 4) hx hb dC_Nam_finishRegister_4 rfl ?_
  refine lv_aload_n (pc := 5) hx hb dC_Nam_finishRegister_5 rfl (lv_at hl 0 rfl) ?_
  refine x_getC (pc := 6) C hW 0 rfl (ci := 2) rfl i_Nam 2 (by decide) qc_219 rfl rfl dC_Nam_finishRegister_6 ?_
  refine lv_iconst (pc := 9) (v := 0) hx hb dC_Nam_finishRegister_9 (by decide) ?_
  obtain ⟨r8, u9, da10, ea11, db12, eb13, hr8, hM, hqda10, hpda10⟩ := ct_some hM
  refine x_callC (pc := 10) (n' := 20) C hW (kC_Row_add l D dA z (fun _ => o 19) (fun _ => b 19)  (0 : Int32) (rg u2 2) hr8) [5, 6, 0, 1, 2, 3, 4, 7, 8, 9, 10, 11, 12, 13, 14, 15, 16, 17, 18, 19] rfl (by decide +kernel) rfl (ci := 1) rfl (q0 := 5) rfl gC_Nam_48 ⟨rfl, by decide, by decide, by decide +kernel⟩ ⟨Nat.le_of_ble_eq_true rfl, Nat.le_of_ble_eq_true rfl⟩ ⟨show _ + da10 ≤ DC by omega, show _ + ea11 ≤ DS by omega⟩ (As := [.int (0 : Int32)]) (n := 1) rfl hl.1 rfl (Nat.le_of_ble_eq_true rfl) dC_Nam_finishRegister_10 (fun Wc' ov H locs hPo hWn => ?_)
  obtain ⟨b14, rfl, rfl⟩ := hPo
  have hW := hWn (w_Nam dA o (uN b 19 (b14 0)) (rs u2 2 u9)) rfl rfl
  generalize uN b 19 (b14 0) = b at hW
  obtain ⟨sN15, esN15, hM⟩ := bnd_some hM
  rw [← esN15] at hW
  refine lv_aload_n (pc := 13) hx hb dC_Nam_finishRegister_13 rfl (lv_at hl 0 rfl) ?_
  refine x_getC (pc := 14) C hW 0 rfl (ci := 2) rfl i_Nam 4 (by decide) qc_223 rfl rfl dC_Nam_finishRegister_14 ?_
  refine lv_iconst (pc := 17) (v := 0) hx hb dC_Nam_finishRegister_17 (by decide) ?_
  obtain ⟨r16, u17, da18, ea19, db20, eb21, hr16, hM, hqda18, hpda18⟩ := ct_some hM
  refine x_callC (pc := 18) (n' := 20) C hW (kC_Row_add l D dA z (fun _ => o 21) (fun _ => b 21)  (0 : Int32) (rg sN15 4) hr16) [9, 10, 0, 1, 2, 3, 4, 5, 6, 7, 8, 11, 12, 13, 14, 15, 16, 17, 18, 19] rfl (by decide +kernel) rfl (ci := 1) rfl (q0 := 9) rfl gC_Nam_48 ⟨rfl, by decide, by decide, by decide +kernel⟩ ⟨Nat.le_of_ble_eq_true rfl, Nat.le_of_ble_eq_true rfl⟩ ⟨show _ + da18 ≤ DC by omega, show _ + ea19 ≤ DS by omega⟩ (As := [.int (0 : Int32)]) (n := 1) rfl hl.1 rfl (Nat.le_of_ble_eq_true rfl) dC_Nam_finishRegister_18 (fun Wc' ov H locs hPo hWn => ?_)
  obtain ⟨b22, rfl, rfl⟩ := hPo
  have hW := hWn (w_Nam dA o (uN b 21 (b22 0)) (rs sN15 4 u17)) rfl rfl
  generalize uN b 21 (b22 0) = b at hW
  obtain ⟨sN23, esN23, hM⟩ := bnd_some hM
  rw [← esN23] at hW
  refine lv_aload_n (pc := 21) hx hb dC_Nam_finishRegister_21 rfl (lv_at hl 0 rfl) ?_
  refine x_getC (pc := 22) C hW 0 rfl (ci := 2) rfl i_Nam 3 (by decide) qc_221 rfl rfl dC_Nam_finishRegister_22 ?_
  refine lv_iload_n (pc := 25) hx hb dC_Nam_finishRegister_25 rfl (lv_at hl 1 rfl) ?_
  refine lv_iconst (pc := 26) (v := 1) hx hb dC_Nam_finishRegister_26 (by decide) ?_
  refine lv_iadd (pc := 27) hx hb dC_Nam_finishRegister_27 ?_
  obtain ⟨r24, u25, da26, ea27, db28, eb29, hr24, hM, hqda26, hpda26⟩ := ct_some hM
  refine x_callC (pc := 28) (n' := 20) C hW (kC_Row_add l D dA z (fun _ => o 20) (fun _ => b 20)  (x1 + (1 : Int32)) (rg sN23 3) hr24) [7, 8, 0, 1, 2, 3, 4, 5, 6, 9, 10, 11, 12, 13, 14, 15, 16, 17, 18, 19] rfl (by decide +kernel) rfl (ci := 1) rfl (q0 := 7) rfl gC_Nam_48 ⟨rfl, by decide, by decide, by decide +kernel⟩ ⟨Nat.le_of_ble_eq_true rfl, Nat.le_of_ble_eq_true rfl⟩ ⟨show _ + da26 ≤ DC by omega, show _ + ea27 ≤ DS by omega⟩ (As := [.int (x1 + (1 : Int32))]) (n := 1) rfl hl.1 rfl (Nat.le_of_ble_eq_true rfl) dC_Nam_finishRegister_28 (fun Wc' ov H locs hPo hWn => ?_)
  obtain ⟨b30, rfl, rfl⟩ := hPo
  have hW := hWn (w_Nam dA o (uN b 20 (b30 0)) (rs sN23 3 u25)) rfl rfl
  generalize uN b 20 (b30 0) = b at hW
  obtain ⟨sN31, esN31, hM⟩ := bnd_some hM
  rw [← esN31] at hW
  obtain ⟨rfl, rfl, rfl, rfl⟩ := sm_q hM
  exact x_retCv (pc := 31) C rfl hW ⟨_, rfl, rfl⟩ (by omega) (by omega) dC_Nam_finishRegister_31
theorem kC_Nam_finishRegister (l : Launch) (D : va_G) (dA : Nat → ClassId) (z : Nat → Nat) (o b : Nat → Nat) (N : Nat) (x1 : Int32) (sN : CS) {r : Int32} {u : CS} {dc ds : Nat} (hM : C_Nam_finishRegister N x1 sN = some ((r, u), (dc, ds))) : KC l D dA z yC_Nam_finishRegister cC_Nam_finishRegister 2 none 4 146 dc ds (w_Nam dA o b sN) [.ref (o 16), .int x1] (fun Ws' ov => ∃ b' : Nat → Nat, Ws' = (w_Nam dA o b' u) ∧ ov = none) := x_enterC (by decide +kernel) (Nat.le_of_ble_eq_true rfl) (fun p e s m args below meth c A C _ hW ls hl => bC_Nam_finishRegister_0 N C x1 sN dc ds 0 0 hM (by omega) (by omega) b s.heap [] hW ls hl)
def C_Nam_enterNumbered_31 (N : Nat) (rec2 : Int32 → CS → Option ((Int32 × CS) × (Nat × Nat))) (x1 : Int32) (sN : CS) : Option ((Int32 × CS) × (Nat × Nat)) :=
  gd (nz (10 : Int32)) (ct (C_Nam_put  ((48 : Int32) + (jrem x1 (10 : Int32))) sN) (fun r2 u3 => ct (C_Nam_finishRegister N x1 u3) (fun r9 u10 => rec2 (x1 + (1 : Int32)) u10)))
set_option maxHeartbeats 4000000 in
set_option maxRecDepth 100000 in
theorem bC_Nam_enterNumbered_31 (N : Nat) (rec2 : Int32 → CS → Option ((Int32 × CS) × (Nat × Nat))) {r : Int32} {u : CS} {DC DS : Nat} (C : CxC R_Nam p s m args meth c cC_Nam_enterNumbered 2 none D dA z A) (hrec2 : ∀ (x1 : Int32) (sN : CS) (dc ds kc ks : Nat) , rec2 x1 sN = some ((r, u), (dc, ds)) → ∀ (hdc : kc + dc ≤ DC) (hds : ks + ds ≤ DS) (b : Nat → Nat) (H : Heap) (locs : List Loc) (hW : WdC D A s (w_Nam dA o b sN) H locs) (ls : Array Slot) (hl : lv_has ls 2 [(0, .ref (o 16)), (1, .int x1)]), W p l e (rmC 5 167 DC DS) s m args below meth c H locs kc ks (MQ below (QC D A (fun Ws' ov => ∃ b' : Nat → Nat, Ws' = (w_Nam dA o b' u) ∧ ov = none)) args s DC DS A) (F0 m 2 ls [])) (x1 : Int32) (sN : CS) (dc ds kc ks : Nat) (hM : C_Nam_enterNumbered_31 N rec2 x1 sN = some ((r, u), (dc, ds))) (hdc : kc + dc ≤ DC) (hds : ks + ds ≤ DS) (b : Nat → Nat) (H : Heap) (locs : List Loc) (hW : WdC D A s (w_Nam dA o b sN) H locs) (ls : Array Slot) (hl : lv_has ls 2 [(0, .ref (o 16)), (1, .int x1)]) : W p l e (rmC 5 167 DC DS) s m args below meth c H locs kc ks (MQ below (QC D A (fun Ws' ov => ∃ b' : Nat → Nat, Ws' = (w_Nam dA o b' u) ∧ ov = none)) args s DC DS A) (F0 m 31 ls []) := by
  have hx := C.1.1
  have hb := C.1.2.1
  have hown := C.1.2.2.2.2.1
  have hT := C.1.2.2.2.2.2.1
  unfold C_Nam_enterNumbered_31 at hM
  refine lv_aload_n (pc := 31) hx hb dC_Nam_enterNumbered_31 rfl (lv_at hl 0 rfl) ?_
  refine lv_bipush (pc := 32) (v := 48) hx hb dC_Nam_enterNumbered_32 (by decide) ?_
  refine lv_iload_n (pc := 34) hx hb dC_Nam_enterNumbered_34 rfl (lv_at hl 1 rfl) ?_
  refine lv_bipush (pc := 35) (v := 10) hx hb dC_Nam_enterNumbered_35 (by decide) ?_
  obtain ⟨hg1, hM⟩ := gd_some hM
  refine lv_irem (pc := 37) hx hb dC_Nam_enterNumbered_37 (nz_ne hg1) ?_
  refine lv_iadd (pc := 38) hx hb dC_Nam_enterNumbered_38 ?_
  obtain ⟨r2, u3, da4, ea5, db6, eb7, hr2, hM, hqda4, hpda4⟩ := ct_some hM
  refine x_callC (pc := 39) (n' := 20) C hW (kC_Nam_put l D dA z o b  ((48 : Int32) + (jrem x1 (10 : Int32))) sN hr2) [0, 1, 2, 3, 4, 5, 6, 7, 8, 9, 10, 11, 12, 13, 14, 15, 16, 17, 18, 19] rfl (by decide +kernel) rfl (ci := 2) rfl (q0 := 0) rfl gC_Nam_134 ⟨rfl, by decide, by decide, by decide +kernel⟩ ⟨Nat.le_of_ble_eq_true rfl, Nat.le_of_ble_eq_true rfl⟩ ⟨show _ + da4 ≤ DC by omega, show _ + ea5 ≤ DS by omega⟩ (As := [.int ((48 : Int32) + (jrem x1 (10 : Int32)))]) (n := 1) rfl hl.1 rfl (Nat.le_of_ble_eq_true rfl) dC_Nam_enterNumbered_39 (fun Wc' ov H locs hPo hWn => ?_)
  obtain ⟨b8, rfl, rfl⟩ := hPo
  have hW := hWn (w_Nam dA o (mxs [1] b8 b) u3) rfl rfl
  generalize mxs [1] b8 b = b at hW
  refine lv_aload_n (pc := 42) hx hb dC_Nam_enterNumbered_42 rfl (lv_at hl 0 rfl) ?_
  refine lv_iload_n (pc := 43) hx hb dC_Nam_enterNumbered_43 rfl (lv_at hl 1 rfl) ?_
  obtain ⟨r9, u10, da11, ea12, db13, eb14, hr9, hM, hqda11, hpda11⟩ := ct_some hM
  refine x_callC (pc := 44) (n' := 20) C hW (kC_Nam_finishRegister l D dA z o b N x1 u3 hr9) [0, 1, 2, 3, 4, 5, 6, 7, 8, 9, 10, 11, 12, 13, 14, 15, 16, 17, 18, 19] rfl (by decide +kernel) rfl (ci := 2) rfl (q0 := 0) rfl gC_Nam_167 ⟨rfl, by decide, by decide, by decide +kernel⟩ ⟨Nat.le_of_ble_eq_true rfl, Nat.le_of_ble_eq_true rfl⟩ ⟨show _ + da11 ≤ DC by omega, show _ + ea12 ≤ DS by omega⟩ (As := [.int x1]) (n := 1) rfl hl.1 rfl (Nat.le_of_ble_eq_true rfl) dC_Nam_enterNumbered_44 (fun Wc' ov H locs hPo hWn => ?_)
  obtain ⟨b15, rfl, rfl⟩ := hPo
  have hW := hWn (w_Nam dA o (mxs [1] b15 b) u10) rfl rfl
  generalize mxs [1] b15 b = b at hW
  refine lv_iinc (pc := 47) (v := x1 + (1 : Int32)) (lv' := [(1, .int (x1 + (1 : Int32))), (0, .ref (o 16))]) hx hb dC_Nam_enterNumbered_47 hl (k := 1) rfl rfl (by decide) rfl (fun ls hl => ?_)
  refine lv_goto (pc := 50) (tgt := 2) hx hb dC_Nam_enterNumbered_50 (by decide) ?_
  exact hrec2 _ _ _ _ _ _ hM (by omega) (by omega) _ _ _ hW _ (lv_sub hl [1, 0] rfl)
def C_Nam_enterNumbered_2 (N : Nat)  : Nat → Int32 → CS → Option ((Int32 × CS) × (Nat × Nat))
  | 0 => fun _ _ => none
  | n + 1 => fun x1 sN => (if (32 : Int32) ≤ x1 then some (((0 : Int32), sN), (0, 0)) else ct (C_Nam_put  (120 : Int32) sN) (fun r1 u2 => (if x1 < (10 : Int32) then C_Nam_enterNumbered_31 N (C_Nam_enterNumbered_2 N  n) x1 u2 else gd (nz (10 : Int32)) (ct (C_Nam_put  ((48 : Int32) + (x1 / (10 : Int32))) u2) (fun r9 u10 => C_Nam_enterNumbered_31 N (C_Nam_enterNumbered_2 N  n) x1 u10)))))
set_option maxHeartbeats 4000000 in
set_option maxRecDepth 100000 in
theorem bC_Nam_enterNumbered_2 (N : Nat)  {r : Int32} {u : CS} {DC DS : Nat} (C : CxC R_Nam p s m args meth c cC_Nam_enterNumbered 2 none D dA z A) : ∀ (n : Nat) (x1 : Int32) (sN : CS) (dc ds kc ks : Nat) , C_Nam_enterNumbered_2 N  n x1 sN = some ((r, u), (dc, ds)) → ∀ (hdc : kc + dc ≤ DC) (hds : ks + ds ≤ DS) (b : Nat → Nat) (H : Heap) (locs : List Loc) (hW : WdC D A s (w_Nam dA o b sN) H locs) (ls : Array Slot) (hl : lv_has ls 2 [(0, .ref (o 16)), (1, .int x1)]), W p l e (rmC 5 167 DC DS) s m args below meth c H locs kc ks (MQ below (QC D A (fun Ws' ov => ∃ b' : Nat → Nat, Ws' = (w_Nam dA o b' u) ∧ ov = none)) args s DC DS A) (F0 m 2 ls []) := by
  have hx := C.1.1
  have hb := C.1.2.1
  have hown := C.1.2.2.2.2.1
  have hT := C.1.2.2.2.2.2.1
  intro n
  induction n with
  | zero => intro x1 sN dc ds kc ks hM; cases hM
  | succ n hrec2 =>
    intro x1 sN dc ds kc ks hM hdc hds b H locs hW ls hl
    rw [C_Nam_enterNumbered_2] at hM
    refine lv_iload_n (pc := 2) hx hb dC_Nam_enterNumbered_2 rfl (lv_at hl 1 rfl) ?_
    refine lv_bipush (pc := 3) (v := 32) hx hb dC_Nam_enterNumbered_3 (by decide) ?_
    refine lv_icmp_ge (pc := 5) (tgt := 53) hx hb dC_Nam_enterNumbered_5 (by decide) (fun hc => ?_) (fun hc => ?_)
    · replace hM := it_t hc hM
      obtain ⟨rfl, rfl, rfl, rfl⟩ := sm_q hM
      exact x_retCv (pc := 53) C rfl hW ⟨_, rfl, rfl⟩ (by omega) (by omega) dC_Nam_enterNumbered_53
    · replace hM := it_f hc hM
      refine lv_aload_n (pc := 8) hx hb dC_Nam_enterNumbered_8 rfl (lv_at hl 0 rfl) ?_
      refine lv_bipush (pc := 9) (v := 120) hx hb dC_Nam_enterNumbered_9 (by decide) ?_
      obtain ⟨r1, u2, da3, ea4, db5, eb6, hr1, hM, hqda3, hpda3⟩ := ct_some hM
      refine x_callC (pc := 11) (n' := 20) C hW (kC_Nam_put l D dA z o b  (120 : Int32) sN hr1) [0, 1, 2, 3, 4, 5, 6, 7, 8, 9, 10, 11, 12, 13, 14, 15, 16, 17, 18, 19] rfl (by decide +kernel) rfl (ci := 2) rfl (q0 := 0) rfl gC_Nam_134 ⟨rfl, by decide, by decide, by decide +kernel⟩ ⟨Nat.le_of_ble_eq_true rfl, Nat.le_of_ble_eq_true rfl⟩ ⟨show _ + da3 ≤ DC by omega, show _ + ea4 ≤ DS by omega⟩ (As := [.int (120 : Int32)]) (n := 1) rfl hl.1 rfl (Nat.le_of_ble_eq_true rfl) dC_Nam_enterNumbered_11 (fun Wc' ov H locs hPo hWn => ?_)
      obtain ⟨b7, rfl, rfl⟩ := hPo
      have hW := hWn (w_Nam dA o (mxs [1] b7 b) u2) rfl rfl
      generalize mxs [1] b7 b = b at hW
      refine lv_iload_n (pc := 14) hx hb dC_Nam_enterNumbered_14 rfl (lv_at hl 1 rfl) ?_
      refine lv_bipush (pc := 15) (v := 10) hx hb dC_Nam_enterNumbered_15 (by decide) ?_
      refine lv_icmp_lt (pc := 17) (tgt := 31) hx hb dC_Nam_enterNumbered_17 (by decide) (fun hc => ?_) (fun hc => ?_)
      · replace hM := it_t hc hM
        exact bC_Nam_enterNumbered_31 N _ C hrec2 _ _ _ _ _ _ hM (by omega) (by omega) _ _ _ hW _ (lv_sub hl [0, 1] rfl)
      · replace hM := it_f hc hM
        refine lv_aload_n (pc := 20) hx hb dC_Nam_enterNumbered_20 rfl (lv_at hl 0 rfl) ?_
        refine lv_bipush (pc := 21) (v := 48) hx hb dC_Nam_enterNumbered_21 (by decide) ?_
        refine lv_iload_n (pc := 23) hx hb dC_Nam_enterNumbered_23 rfl (lv_at hl 1 rfl) ?_
        refine lv_bipush (pc := 24) (v := 10) hx hb dC_Nam_enterNumbered_24 (by decide) ?_
        obtain ⟨hg8, hM⟩ := gd_some hM
        refine lv_idiv (pc := 26) hx hb dC_Nam_enterNumbered_26 (nz_ne hg8) ?_
        refine lv_iadd (pc := 27) hx hb dC_Nam_enterNumbered_27 ?_
        obtain ⟨r9, u10, da11, ea12, db13, eb14, hr9, hM, hqda11, hpda11⟩ := ct_some hM
        refine x_callC (pc := 28) (n' := 20) C hW (kC_Nam_put l D dA z o b  ((48 : Int32) + (x1 / (10 : Int32))) u2 hr9) [0, 1, 2, 3, 4, 5, 6, 7, 8, 9, 10, 11, 12, 13, 14, 15, 16, 17, 18, 19] rfl (by decide +kernel) rfl (ci := 2) rfl (q0 := 0) rfl gC_Nam_134 ⟨rfl, by decide, by decide, by decide +kernel⟩ ⟨Nat.le_of_ble_eq_true rfl, Nat.le_of_ble_eq_true rfl⟩ ⟨show _ + da11 ≤ DC by omega, show _ + ea12 ≤ DS by omega⟩ (As := [.int ((48 : Int32) + (x1 / (10 : Int32)))]) (n := 1) rfl hl.1 rfl (Nat.le_of_ble_eq_true rfl) dC_Nam_enterNumbered_28 (fun Wc' ov H locs hPo hWn => ?_)
        obtain ⟨b15, rfl, rfl⟩ := hPo
        have hW := hWn (w_Nam dA o (mxs [1] b15 b) u10) rfl rfl
        generalize mxs [1] b15 b = b at hW
        exact bC_Nam_enterNumbered_31 N _ C hrec2 _ _ _ _ _ _ hM (by omega) (by omega) _ _ _ hW _ (lv_sub hl [0, 1] rfl)
def C_Nam_enterNumbered (N : Nat)  (sN : CS) : Option ((Int32 × CS) × (Nat × Nat)) :=
  C_Nam_enterNumbered_2 N  N (0 : Int32) sN
set_option maxHeartbeats 4000000 in
set_option maxRecDepth 100000 in
theorem bC_Nam_enterNumbered_0 (N : Nat)  {r : Int32} {u : CS} {DC DS : Nat} (C : CxC R_Nam p s m args meth c cC_Nam_enterNumbered 2 none D dA z A)  (sN : CS) (dc ds kc ks : Nat) (hM : C_Nam_enterNumbered N   sN = some ((r, u), (dc, ds))) (hdc : kc + dc ≤ DC) (hds : ks + ds ≤ DS) (b : Nat → Nat) (H : Heap) (locs : List Loc) (hW : WdC D A s (w_Nam dA o b sN) H locs) (ls : Array Slot) (hl : lv_has ls 2 [(0, .ref (o 16))]) : W p l e (rmC 5 167 DC DS) s m args below meth c H locs kc ks (MQ below (QC D A (fun Ws' ov => ∃ b' : Nat → Nat, Ws' = (w_Nam dA o b' u) ∧ ov = none)) args s DC DS A) (F0 m 0 ls []) := by
  have hx := C.1.1
  have hb := C.1.2.1
  have hown := C.1.2.2.2.2.1
  have hT := C.1.2.2.2.2.2.1
  unfold C_Nam_enterNumbered at hM
  refine lv_iconst (pc := 0) (v := 0) hx hb dC_Nam_enterNumbered_0 (by decide) ?_
  refine lv_istore_n (pc := 1) (lv' := [(1, .int (0 : Int32)), (0, .ref (o 16))]) hx hb dC_Nam_enterNumbered_1 rfl hl (by decide) rfl (fun ls hl => ?_)
  exact bC_Nam_enterNumbered_2 N  C  N _ _ _ _ _ _ hM (by omega) (by omega) _ _ _ hW _ (lv_sub hl [1, 0] rfl)
theorem kC_Nam_enterNumbered (l : Launch) (D : va_G) (dA : Nat → ClassId) (z : Nat → Nat) (o b : Nat → Nat) (N : Nat)  (sN : CS) {r : Int32} {u : CS} {dc ds : Nat} (hM : C_Nam_enterNumbered N  sN = some ((r, u), (dc, ds))) : KC l D dA z yC_Nam_enterNumbered cC_Nam_enterNumbered 2 none 5 167 dc ds (w_Nam dA o b sN) [.ref (o 16)] (fun Ws' ov => ∃ b' : Nat → Nat, Ws' = (w_Nam dA o b' u) ∧ ov = none) := x_enterC (by decide +kernel) (Nat.le_of_ble_eq_true rfl) (fun p e s m args below meth c A C _ hW ls hl => bC_Nam_enterNumbered_0 N C  sN dc ds 0 0 hM (by omega) (by omega) b s.heap [] hW ls hl)
end
