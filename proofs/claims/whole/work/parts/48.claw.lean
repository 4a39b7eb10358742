theorem qc_0 : (Jvm.Cond.initialized "LineAssemblerLaw") ∈ lw_gd := uc_0 (List.mem_of_getElem? (i := 0) (by decide +kernel)) (by decide +kernel)
theorem qc_23 : (Jvm.Cond.initialized "LineAssemblerModel") ∈ lw_gd := uc_0 (List.mem_of_getElem? (i := 23) (by decide +kernel)) (by decide +kernel)
theorem qc_585 : (Jvm.Cond.methodLink "LineAssemblerLaw" (35 : Nat) ({ cls := "LineAssembler", name := "feed", desc := "(JI)Z" } : Jvm.MethodName)) ∈ lw_gd := uc_2 (List.mem_of_getElem? (i := 105) (by decide +kernel)) (by decide +kernel)
theorem qc_586 : (Jvm.Cond.instanceMethod ({ cls := "LineAssembler", name := "feed", desc := "(JI)Z" } : Jvm.MethodName)) ∈ lw_gd := uc_2 (List.mem_of_getElem? (i := 106) (by decide +kernel)) (by decide +kernel)
theorem qc_587 : (Jvm.Cond.selects "LineAssembler" ({ cls := "LineAssembler", name := "feed", desc := "(JI)Z" } : Jvm.MethodName) ({ cls := "LineAssembler", name := "feed", desc := "(JI)Z" } : Jvm.MethodName)) ∈ lw_gd := uc_2 (List.mem_of_getElem? (i := 107) (by decide +kernel)) (by decide +kernel)
theorem qc_588 : (Jvm.Cond.code ({ cls := "LineAssembler", name := "feed", desc := "(JI)Z" } : Jvm.MethodName) prog_1_method_2_code (5 : Nat) (Option.some Jvm.ClassFile.FieldType.boolean)) ∈ lw_gd := uc_2 (List.mem_of_getElem? (i := 108) (by decide +kernel)) (by decide +kernel)
theorem qc_594 : (Jvm.Cond.methodLink "LineAssemblerLaw" (40 : Nat) ({ cls := "LineAssembler", name := "clear", desc := "()I" } : Jvm.MethodName)) ∈ lw_gd := uc_2 (List.mem_of_getElem? (i := 114) (by decide +kernel)) (by decide +kernel)
theorem qc_595 : (Jvm.Cond.instanceMethod ({ cls := "LineAssembler", name := "clear", desc := "()I" } : Jvm.MethodName)) ∈ lw_gd := uc_2 (List.mem_of_getElem? (i := 115) (by decide +kernel)) (by decide +kernel)
theorem qc_596 : (Jvm.Cond.selects "LineAssembler" ({ cls := "LineAssembler", name := "clear", desc := "()I" } : Jvm.MethodName) ({ cls := "LineAssembler", name := "clear", desc := "()I" } : Jvm.MethodName)) ∈ lw_gd := uc_2 (List.mem_of_getElem? (i := 116) (by decide +kernel)) (by decide +kernel)
theorem qc_597 : (Jvm.Cond.code ({ cls := "LineAssembler", name := "clear", desc := "()I" } : Jvm.MethodName) prog_1_method_3_code (2 : Nat) (Option.some Jvm.ClassFile.FieldType.int)) ∈ lw_gd := uc_2 (List.mem_of_getElem? (i := 117) (by decide +kernel)) (by decide +kernel)
theorem qc_599 : (Jvm.Cond.methodLink "LineAssemblerLaw" (45 : Nat) ({ cls := "LineAssembler", name := "assemble", desc := "()I" } : Jvm.MethodName)) ∈ lw_gd := uc_2 (List.mem_of_getElem? (i := 119) (by decide +kernel)) (by decide +kernel)
theorem qc_600 : (Jvm.Cond.instanceMethod ({ cls := "LineAssembler", name := "assemble", desc := "()I" } : Jvm.MethodName)) ∈ lw_gd := uc_2 (List.mem_of_getElem? (i := 120) (by decide +kernel)) (by decide +kernel)
theorem qc_601 : (Jvm.Cond.selects "LineAssembler" ({ cls := "LineAssembler", name := "assemble", desc := "()I" } : Jvm.MethodName) ({ cls := "LineAssembler", name := "assemble", desc := "()I" } : Jvm.MethodName)) ∈ lw_gd := uc_2 (List.mem_of_getElem? (i := 121) (by decide +kernel)) (by decide +kernel)
theorem qc_602 : (Jvm.Cond.code ({ cls := "LineAssembler", name := "assemble", desc := "()I" } : Jvm.MethodName) prog_1_method_4_code (4 : Nat) (Option.some Jvm.ClassFile.FieldType.int)) ∈ lw_gd := uc_2 (List.mem_of_getElem? (i := 122) (by decide +kernel)) (by decide +kernel)
theorem qc_1395 : (Jvm.Cond.methodLink "LineAssemblerLaw" (68 : Nat) ({ cls := "LineAssembler", name := "line", desc := "(I)I" } : Jvm.MethodName)) ∈ lw_gd := uc_5 (List.mem_of_getElem? (i := 195) (by decide +kernel)) (by decide +kernel)
theorem qc_1396 : (Jvm.Cond.instanceMethod ({ cls := "LineAssembler", name := "line", desc := "(I)I" } : Jvm.MethodName)) ∈ lw_gd := uc_5 (List.mem_of_getElem? (i := 196) (by decide +kernel)) (by decide +kernel)
theorem qc_1397 : (Jvm.Cond.selects "LineAssembler" ({ cls := "LineAssembler", name := "line", desc := "(I)I" } : Jvm.MethodName) ({ cls := "LineAssembler", name := "line", desc := "(I)I" } : Jvm.MethodName)) ∈ lw_gd := uc_5 (List.mem_of_getElem? (i := 197) (by decide +kernel)) (by decide +kernel)
theorem qc_1398 : (Jvm.Cond.code ({ cls := "LineAssembler", name := "line", desc := "(I)I" } : Jvm.MethodName) prog_1_method_9_code (2 : Nat) (Option.some Jvm.ClassFile.FieldType.int)) ∈ lw_gd := uc_5 (List.mem_of_getElem? (i := 198) (by decide +kernel)) (by decide +kernel)
theorem qc_1400 : (Jvm.Cond.methodLink "LineAssemblerLaw" (72 : Nat) ({ cls := "LineAssembler", name := "before", desc := "(I)I" } : Jvm.MethodName)) ∈ lw_gd := uc_5 (List.mem_of_getElem? (i := 200) (by decide +kernel)) (by decide +kernel)
theorem qc_1401 : (Jvm.Cond.instanceMethod ({ cls := "LineAssembler", name := "before", desc := "(I)I" } : Jvm.MethodName)) ∈ lw_gd := uc_5 (List.mem_of_getElem? (i := 201) (by decide +kernel)) (by decide +kernel)
theorem qc_1402 : (Jvm.Cond.selects "LineAssembler" ({ cls := "LineAssembler", name := "before", desc := "(I)I" } : Jvm.MethodName) ({ cls := "LineAssembler", name := "before", desc := "(I)I" } : Jvm.MethodName)) ∈ lw_gd := uc_5 (List.mem_of_getElem? (i := 202) (by decide +kernel)) (by decide +kernel)
theorem qc_1403 : (Jvm.Cond.code ({ cls := "LineAssembler", name := "before", desc := "(I)I" } : Jvm.MethodName) prog_1_method_10_code (7 : Nat) (Option.some Jvm.ClassFile.FieldType.int)) ∈ lw_gd := uc_5 (List.mem_of_getElem? (i := 203) (by decide +kernel)) (by decide +kernel)
theorem qc_1405 : (Jvm.Cond.methodLink "LineAssemblerLaw" (49 : Nat) ({ cls := "LineAssemblerLaw", name := "size", desc := "(LLineAssembler;I[J)I" } : Jvm.MethodName)) ∈ lw_gd := uc_5 (List.mem_of_getElem? (i := 205) (by decide +kernel)) (by decide +kernel)
theorem qc_1406 : (Jvm.Cond.static ({ cls := "LineAssemblerLaw", name := "size", desc := "(LLineAssembler;I[J)I" } : Jvm.MethodName)) ∈ lw_gd := uc_5 (List.mem_of_getElem? (i := 206) (by decide +kernel)) (by decide +kernel)
theorem qc_1407 : (Jvm.Cond.codeWith ({ cls := "LineAssemblerLaw", name := "size", desc := "(LLineAssembler;I[J)I" } : Jvm.MethodName) method_3_code (4 : Nat) (Option.some Jvm.ClassFile.FieldType.int) [((0 : Nat), (9 : Nat), (12 : Nat), (13 : Nat)), ((0 : Nat), (9 : Nat), (15 : Nat), (15 : Nat))]) ∈ lw_gd := uc_5 (List.mem_of_getElem? (i := 207) (by decide +kernel)) (by decide +kernel)
theorem qc_1433 : (Jvm.Cond.methodLink "LineAssemblerLaw" (58 : Nat) ({ cls := "LineAssemblerLaw", name := "byteAt", desc := "(LLineAssembler;I[J)I" } : Jvm.MethodName)) ∈ lw_gd := uc_5 (List.mem_of_getElem? (i := 233) (by decide +kernel)) (by decide +kernel)
theorem qc_1434 : (Jvm.Cond.static ({ cls := "LineAssemblerLaw", name := "byteAt", desc := "(LLineAssembler;I[J)I" } : Jvm.MethodName)) ∈ lw_gd := uc_5 (List.mem_of_getElem? (i := 234) (by decide +kernel)) (by decide +kernel)
theorem qc_1435 : (Jvm.Cond.codeWith ({ cls := "LineAssemblerLaw", name := "byteAt", desc := "(LLineAssembler;I[J)I" } : Jvm.MethodName) method_4_code (4 : Nat) (Option.some Jvm.ClassFile.FieldType.int) [((0 : Nat), (9 : Nat), (12 : Nat), (20 : Nat))]) ∈ lw_gd := uc_5 (List.mem_of_getElem? (i := 235) (by decide +kernel)) (by decide +kernel)
theorem qc_1454 : (Jvm.Cond.methodLink "LineAssemblerLaw" (61 : Nat) ({ cls := "LineAssemblerLaw", name := "address", desc := "(LLineAssembler;I[J)I" } : Jvm.MethodName)) ∈ lw_gd := uc_6 (List.mem_of_getElem? (i := 14) (by decide +kernel)) (by decide +kernel)
theorem qc_1455 : (Jvm.Cond.static ({ cls := "LineAssemblerLaw", name := "address", desc := "(LLineAssembler;I[J)I" } : Jvm.MethodName)) ∈ lw_gd := uc_6 (List.mem_of_getElem? (i := 15) (by decide +kernel)) (by decide +kernel)
theorem qc_1456 : (Jvm.Cond.codeWith ({ cls := "LineAssemblerLaw", name := "address", desc := "(LLineAssembler;I[J)I" } : Jvm.MethodName) method_5_code (4 : Nat) (Option.some Jvm.ClassFile.FieldType.int) [((0 : Nat), (9 : Nat), (12 : Nat), (20 : Nat))]) ∈ lw_gd := uc_6 (List.mem_of_getElem? (i := 16) (by decide +kernel)) (by decide +kernel)
theorem qc_1466 : (Jvm.Cond.methodLink "LineAssemblerLaw" (64 : Nat) ({ cls := "LineAssemblerLaw", name := "letter", desc := "(LLineAssembler;II[J)I" } : Jvm.MethodName)) ∈ lw_gd := uc_6 (List.mem_of_getElem? (i := 26) (by decide +kernel)) (by decide +kernel)
theorem qc_1467 : (Jvm.Cond.static ({ cls := "LineAssemblerLaw", name := "letter", desc := "(LLineAssembler;II[J)I" } : Jvm.MethodName)) ∈ lw_gd := uc_6 (List.mem_of_getElem? (i := 27) (by decide +kernel)) (by decide +kernel)
theorem qc_1468 : (Jvm.Cond.codeWith ({ cls := "LineAssemblerLaw", name := "letter", desc := "(LLineAssembler;II[J)I" } : Jvm.MethodName) method_6_code (5 : Nat) (Option.some Jvm.ClassFile.FieldType.int) [((0 : Nat), (10 : Nat), (13 : Nat), (20 : Nat))]) ∈ lw_gd := uc_6 (List.mem_of_getElem? (i := 28) (by decide +kernel)) (by decide +kernel)
theorem qc_1780 : (Jvm.Cond.methodLink "LineAssemblerLaw" (55 : Nat) ({ cls := "LineAssemblerModel", name := "thrown", desc := "()I" } : Jvm.MethodName)) ∈ lw_gd := uc_7 (List.mem_of_getElem? (i := 100) (by decide +kernel)) (by decide +kernel)
theorem qc_1781 : (Jvm.Cond.instanceMethod ({ cls := "LineAssemblerModel", name := "thrown", desc := "()I" } : Jvm.MethodName)) ∈ lw_gd := uc_7 (List.mem_of_getElem? (i := 101) (by decide +kernel)) (by decide +kernel)
theorem qc_1782 : (Jvm.Cond.selects "LineAssemblerModel" ({ cls := "LineAssemblerModel", name := "thrown", desc := "()I" } : Jvm.MethodName) ({ cls := "LineAssemblerModel", name := "thrown", desc := "()I" } : Jvm.MethodName)) ∈ lw_gd := uc_7 (List.mem_of_getElem? (i := 102) (by decide +kernel)) (by decide +kernel)
theorem qc_1783 : (Jvm.Cond.code ({ cls := "LineAssemblerModel", name := "thrown", desc := "()I" } : Jvm.MethodName) prog_14_method_2_code (1 : Nat) (Option.some Jvm.ClassFile.FieldType.int)) ∈ lw_gd := uc_7 (List.mem_of_getElem? (i := 103) (by decide +kernel)) (by decide +kernel)
theorem qc_1784 : (Jvm.Cond.methodLink "LineAssemblerLaw" (39 : Nat) ({ cls := "LineAssemblerModel", name := "feed", desc := "(JI)Z" } : Jvm.MethodName)) ∈ lw_gd := uc_7 (List.mem_of_getElem? (i := 104) (by decide +kernel)) (by decide +kernel)
theorem qc_1785 : (Jvm.Cond.instanceMethod ({ cls := "LineAssemblerModel", name := "feed", desc := "(JI)Z" } : Jvm.MethodName)) ∈ lw_gd := uc_7 (List.mem_of_getElem? (i := 105) (by decide +kernel)) (by decide +kernel)
theorem qc_1786 : (Jvm.Cond.selects "LineAssemblerModel" ({ cls := "LineAssemblerModel", name := "feed", desc := "(JI)Z" } : Jvm.MethodName) ({ cls := "LineAssemblerModel", name := "feed", desc := "(JI)Z" } : Jvm.MethodName)) ∈ lw_gd := uc_7 (List.mem_of_getElem? (i := 106) (by decide +kernel)) (by decide +kernel)
theorem qc_1787 : (Jvm.Cond.code ({ cls := "LineAssemblerModel", name := "feed", desc := "(JI)Z" } : Jvm.MethodName) prog_14_method_3_code (6 : Nat) (Option.some Jvm.ClassFile.FieldType.boolean)) ∈ lw_gd := uc_7 (List.mem_of_getElem? (i := 107) (by decide +kernel)) (by decide +kernel)
theorem qc_1790 : (Jvm.Cond.methodLink "LineAssemblerLaw" (44 : Nat) ({ cls := "LineAssemblerModel", name := "clear", desc := "()I" } : Jvm.MethodName)) ∈ lw_gd := uc_7 (List.mem_of_getElem? (i := 110) (by decide +kernel)) (by decide +kernel)
theorem qc_1791 : (Jvm.Cond.instanceMethod ({ cls := "LineAssemblerModel", name := "clear", desc := "()I" } : Jvm.MethodName)) ∈ lw_gd := uc_7 (List.mem_of_getElem? (i := 111) (by decide +kernel)) (by decide +kernel)
theorem qc_1792 : (Jvm.Cond.selects "LineAssemblerModel" ({ cls := "LineAssemblerModel", name := "clear", desc := "()I" } : Jvm.MethodName) ({ cls := "LineAssemblerModel", name := "clear", desc := "()I" } : Jvm.MethodName)) ∈ lw_gd := uc_7 (List.mem_of_getElem? (i := 112) (by decide +kernel)) (by decide +kernel)
theorem qc_1793 : (Jvm.Cond.code ({ cls := "LineAssemblerModel", name := "clear", desc := "()I" } : Jvm.MethodName) prog_14_method_4_code (2 : Nat) (Option.some Jvm.ClassFile.FieldType.int)) ∈ lw_gd := uc_7 (List.mem_of_getElem? (i := 113) (by decide +kernel)) (by decide +kernel)
theorem qc_1794 : (Jvm.Cond.methodLink "LineAssemblerLaw" (48 : Nat) ({ cls := "LineAssemblerModel", name := "assemble", desc := "()I" } : Jvm.MethodName)) ∈ lw_gd := uc_7 (List.mem_of_getElem? (i := 114) (by decide +kernel)) (by decide +kernel)
theorem qc_1795 : (Jvm.Cond.instanceMethod ({ cls := "LineAssemblerModel", name := "assemble", desc := "()I" } : Jvm.MethodName)) ∈ lw_gd := uc_7 (List.mem_of_getElem? (i := 115) (by decide +kernel)) (by decide +kernel)
theorem qc_1796 : (Jvm.Cond.selects "LineAssemblerModel" ({ cls := "LineAssemblerModel", name := "assemble", desc := "()I" } : Jvm.MethodName) ({ cls := "LineAssemblerModel", name := "assemble", desc := "()I" } : Jvm.MethodName)) ∈ lw_gd := uc_7 (List.mem_of_getElem? (i := 116) (by decide +kernel)) (by decide +kernel)
theorem qc_1797 : (Jvm.Cond.code ({ cls := "LineAssemblerModel", name := "assemble", desc := "()I" } : Jvm.MethodName) prog_14_method_85_code (2 : Nat) (Option.some Jvm.ClassFile.FieldType.int)) ∈ lw_gd := uc_7 (List.mem_of_getElem? (i := 117) (by decide +kernel)) (by decide +kernel)
theorem qc_2126 : (Jvm.Cond.methodLink "LineAssemblerLaw" (54 : Nat) ({ cls := "LineAssemblerModel", name := "size", desc := "(I)I" } : Jvm.MethodName)) ∈ lw_gd := uc_8 (List.mem_of_getElem? (i := 206) (by decide +kernel)) (by decide +kernel)
theorem qc_2127 : (Jvm.Cond.instanceMethod ({ cls := "LineAssemblerModel", name := "size", desc := "(I)I" } : Jvm.MethodName)) ∈ lw_gd := uc_8 (List.mem_of_getElem? (i := 207) (by decide +kernel)) (by decide +kernel)
theorem qc_2128 : (Jvm.Cond.selects "LineAssemblerModel" ({ cls := "LineAssemblerModel", name := "size", desc := "(I)I" } : Jvm.MethodName) ({ cls := "LineAssemblerModel", name := "size", desc := "(I)I" } : Jvm.MethodName)) ∈ lw_gd := uc_8 (List.mem_of_getElem? (i := 208) (by decide +kernel)) (by decide +kernel)
theorem qc_2129 : (Jvm.Cond.code ({ cls := "LineAssemblerModel", name := "size", desc := "(I)I" } : Jvm.MethodName) prog_14_method_88_code (2 : Nat) (Option.some Jvm.ClassFile.FieldType.int)) ∈ lw_gd := uc_8 (List.mem_of_getElem? (i := 209) (by decide +kernel)) (by decide +kernel)
theorem qc_2138 : (Jvm.Cond.methodLink "LineAssemblerLaw" (60 : Nat) ({ cls := "LineAssemblerModel", name := "byteAt", desc := "(I)I" } : Jvm.MethodName)) ∈ lw_gd := uc_8 (List.mem_of_getElem? (i := 218) (by decide +kernel)) (by decide +kernel)
theorem qc_2139 : (Jvm.Cond.instanceMethod ({ cls := "LineAssemblerModel", name := "byteAt", desc := "(I)I" } : Jvm.MethodName)) ∈ lw_gd := uc_8 (List.mem_of_getElem? (i := 219) (by decide +kernel)) (by decide +kernel)
theorem qc_2140 : (Jvm.Cond.selects "LineAssemblerModel" ({ cls := "LineAssemblerModel", name := "byteAt", desc := "(I)I" } : Jvm.MethodName) ({ cls := "LineAssemblerModel", name := "byteAt", desc := "(I)I" } : Jvm.MethodName)) ∈ lw_gd := uc_8 (List.mem_of_getElem? (i := 220) (by decide +kernel)) (by decide +kernel)
theorem qc_2141 : (Jvm.Cond.code ({ cls := "LineAssemblerModel", name := "byteAt", desc := "(I)I" } : Jvm.MethodName) prog_14_method_90_code (3 : Nat) (Option.some Jvm.ClassFile.FieldType.int)) ∈ lw_gd := uc_8 (List.mem_of_getElem? (i := 221) (by decide +kernel)) (by decide +kernel)
theorem qc_2146 : (Jvm.Cond.methodLink "LineAssemblerLaw" (63 : Nat) ({ cls := "LineAssemblerModel", name := "address", desc := "(I)I" } : Jvm.MethodName)) ∈ lw_gd := uc_8 (List.mem_of_getElem? (i := 226) (by decide +kernel)) (by decide +kernel)
theorem qc_2147 : (Jvm.Cond.instanceMethod ({ cls := "LineAssemblerModel", name := "address", desc := "(I)I" } : Jvm.MethodName)) ∈ lw_gd := uc_8 (List.mem_of_getElem? (i := 227) (by decide +kernel)) (by decide +kernel)
theorem qc_2148 : (Jvm.Cond.selects "LineAssemblerModel" ({ cls := "LineAssemblerModel", name := "address", desc := "(I)I" } : Jvm.MethodName) ({ cls := "LineAssemblerModel", name := "address", desc := "(I)I" } : Jvm.MethodName)) ∈ lw_gd := uc_8 (List.mem_of_getElem? (i := 228) (by decide +kernel)) (by decide +kernel)
theorem qc_2149 : (Jvm.Cond.code ({ cls := "LineAssemblerModel", name := "address", desc := "(I)I" } : Jvm.MethodName) prog_14_method_92_code (3 : Nat) (Option.some Jvm.ClassFile.FieldType.int)) ∈ lw_gd := uc_8 (List.mem_of_getElem? (i := 229) (by decide +kernel)) (by decide +kernel)
theorem qc_2154 : (Jvm.Cond.methodLink "LineAssemblerLaw" (67 : Nat) ({ cls := "LineAssemblerModel", name := "letter", desc := "(II)C" } : Jvm.MethodName)) ∈ lw_gd := uc_8 (List.mem_of_getElem? (i := 234) (by decide +kernel)) (by decide +kernel)
theorem qc_2155 : (Jvm.Cond.instanceMethod ({ cls := "LineAssemblerModel", name := "letter", desc := "(II)C" } : Jvm.MethodName)) ∈ lw_gd := uc_8 (List.mem_of_getElem? (i := 235) (by decide +kernel)) (by decide +kernel)
theorem qc_2156 : (Jvm.Cond.selects "LineAssemblerModel" ({ cls := "LineAssemblerModel", name := "letter", desc := "(II)C" } : Jvm.MethodName) ({ cls := "LineAssemblerModel", name := "letter", desc := "(II)C" } : Jvm.MethodName)) ∈ lw_gd := uc_8 (List.mem_of_getElem? (i := 236) (by decide +kernel)) (by decide +kernel)
theorem qc_2157 : (Jvm.Cond.code ({ cls := "LineAssemblerModel", name := "letter", desc := "(II)C" } : Jvm.MethodName) prog_14_method_93_code (5 : Nat) (Option.some Jvm.ClassFile.FieldType.char)) ∈ lw_gd := uc_8 (List.mem_of_getElem? (i := 237) (by decide +kernel)) (by decide +kernel)
theorem qc_2158 : (Jvm.Cond.methodLink "LineAssemblerLaw" (71 : Nat) ({ cls := "LineAssemblerModel", name := "line", desc := "(I)I" } : Jvm.MethodName)) ∈ lw_gd := uc_8 (List.mem_of_getElem? (i := 238) (by decide +kernel)) (by decide +kernel)
theorem qc_2159 : (Jvm.Cond.instanceMethod ({ cls := "LineAssemblerModel", name := "line", desc := "(I)I" } : Jvm.MethodName)) ∈ lw_gd := uc_8 (List.mem_of_getElem? (i := 239) (by decide +kernel)) (by decide +kernel)
theorem qc_2160 : (Jvm.Cond.selects "LineAssemblerModel" ({ cls := "LineAssemblerModel", name := "line", desc := "(I)I" } : Jvm.MethodName) ({ cls := "LineAssemblerModel", name := "line", desc := "(I)I" } : Jvm.MethodName)) ∈ lw_gd := uc_9 (List.mem_of_getElem? (i := 0) (by decide +kernel)) (by decide +kernel)
theorem qc_2161 : (Jvm.Cond.code ({ cls := "LineAssemblerModel", name := "line", desc := "(I)I" } : Jvm.MethodName) prog_14_method_94_code (3 : Nat) (Option.some Jvm.ClassFile.FieldType.int)) ∈ lw_gd := uc_9 (List.mem_of_getElem? (i := 1) (by decide +kernel)) (by decide +kernel)
theorem qc_2162 : (Jvm.Cond.methodLink "LineAssemblerLaw" (75 : Nat) ({ cls := "LineAssemblerModel", name := "before", desc := "(I)I" } : Jvm.MethodName)) ∈ lw_gd := uc_9 (List.mem_of_getElem? (i := 2) (by decide +kernel)) (by decide +kernel)
theorem qc_2163 : (Jvm.Cond.instanceMethod ({ cls := "LineAssemblerModel", name := "before", desc := "(I)I" } : Jvm.MethodName)) ∈ lw_gd := uc_9 (List.mem_of_getElem? (i := 3) (by decide +kernel)) (by decide +kernel)
theorem qc_2164 : (Jvm.Cond.selects "LineAssemblerModel" ({ cls := "LineAssemblerModel", name := "before", desc := "(I)I" } : Jvm.MethodName) ({ cls := "LineAssemblerModel", name := "before", desc := "(I)I" } : Jvm.MethodName)) ∈ lw_gd := uc_9 (List.mem_of_getElem? (i := 4) (by decide +kernel)) (by decide +kernel)
theorem qc_2165 : (Jvm.Cond.code ({ cls := "LineAssemblerModel", name := "before", desc := "(I)I" } : Jvm.MethodName) prog_14_method_95_code (7 : Nat) (Option.some Jvm.ClassFile.FieldType.int)) ∈ lw_gd := uc_9 (List.mem_of_getElem? (i := 5) (by decide +kernel)) (by decide +kernel)
theorem qc_2166 : (Jvm.Cond.constantLong "LineAssemblerLaw" (33 : Nat) (4294967295 : Int64)) ∈ lw_gd := uc_9 (List.mem_of_getElem? (i := 6) (by decide +kernel)) (by decide +kernel)
theorem dW_0 : decode code 0 = .ok (.new 8, 3) := by decide +kernel
theorem dW_3 : decode code 3 = .ok (.dup, 1) := by decide +kernel
theorem dW_4 : decode code 4 = .ok (.invokespecial 29, 3) := by decide +kernel
theorem dW_7 : decode code 7 = .ok (.astore_n 1, 1) := by decide +kernel
theorem dW_8 : decode code 8 = .ok (.new 30, 3) := by decide +kernel
theorem dW_11 : decode code 11 = .ok (.dup, 1) := by decide +kernel
theorem dW_12 : decode code 12 = .ok (.invokespecial 32, 3) := by decide +kernel
theorem dW_15 : decode code 15 = .ok (.astore_n 2, 1) := by decide +kernel
theorem dW_16 : decode code 16 = .ok (.iconst (1), 1) := by decide +kernel
theorem dW_17 : decode code 17 = .ok (.newarray .long, 2) := by decide +kernel
theorem dW_19 : decode code 19 = .ok (.astore_n 3, 1) := by decide +kernel
theorem dW_20 : decode code 20 = .ok (.iconst (0), 1) := by decide +kernel
theorem dW_21 : decode code 21 = .ok (.istore 4, 2) := by decide +kernel
theorem dW_23 : decode code 23 = .ok (.iload 4, 2) := by decide +kernel
theorem dW_25 : decode code 25 = .ok (.aload_n 0, 1) := by decide +kernel
theorem dW_26 : decode code 26 = .ok (.arraylength, 1) := by decide +kernel
theorem dW_27 : decode code 27 = .ok (.iconst (4), 1) := by decide +kernel
theorem dW_28 : decode code 28 = .ok (.isub, 1) := by decide +kernel
theorem dW_29 : decode code 29 = .ok (.if_icmp .gt (446), 3) := by decide +kernel
theorem dW_32 : decode code 32 = .ok (.aload_n 0, 1) := by decide +kernel
theorem dW_33 : decode code 33 = .ok (.iload 4, 2) := by decide +kernel
theorem dW_35 : decode code 35 = .ok (.iaload, 1) := by decide +kernel
theorem dW_36 : decode code 36 = .ok (.bipush (15), 2) := by decide +kernel
theorem dW_38 : decode code 38 = .ok (.iand, 1) := by decide +kernel
theorem dW_39 : decode code 39 = .ok (.tableswitch (430) (0) (8) #[49, 118, 131, 144, 200, 256, 312, 380, 405], 49) := by decide +kernel
theorem dW_88 : decode code 88 = .ok (.aload_n 1, 1) := by decide +kernel
theorem dW_89 : decode code 89 = .ok (.aload_n 0, 1) := by decide +kernel
theorem dW_90 : decode code 90 = .ok (.iload 4, 2) := by decide +kernel
theorem dW_92 : decode code 92 = .ok (.iconst (1), 1) := by decide +kernel
theorem dW_93 : decode code 93 = .ok (.iadd, 1) := by decide +kernel
theorem dW_94 : decode code 94 = .ok (.iaload, 1) := by decide +kernel
theorem dW_95 : decode code 95 = .ok (.i2l, 1) := by decide +kernel
theorem dW_96 : decode code 96 = .ok (.bipush (32), 2) := by decide +kernel
theorem dW_98 : decode code 98 = .ok (.lshl, 1) := by decide +kernel
theorem dW_99 : decode code 99 = .ok (.aload_n 0, 1) := by decide +kernel
theorem dW_100 : decode code 100 = .ok (.iload 4, 2) := by decide +kernel
theorem dW_102 : decode code 102 = .ok (.iconst (2), 1) := by decide +kernel
theorem dW_103 : decode code 103 = .ok (.iadd, 1) := by decide +kernel
theorem dW_104 : decode code 104 = .ok (.iaload, 1) := by decide +kernel
theorem dW_105 : decode code 105 = .ok (.i2l, 1) := by decide +kernel
theorem dW_106 : decode code 106 = .ok (.ldc2_w 33, 3) := by decide +kernel
theorem dW_109 : decode code 109 = .ok (.land, 1) := by decide +kernel
theorem dW_110 : decode code 110 = .ok (.lor, 1) := by decide +kernel
theorem dW_111 : decode code 111 = .ok (.aload_n 0, 1) := by decide +kernel
theorem dW_112 : decode code 112 = .ok (.iload 4, 2) := by decide +kernel
theorem dW_114 : decode code 114 = .ok (.iconst (3), 1) := by decide +kernel
theorem dW_115 : decode code 115 = .ok (.iadd, 1) := by decide +kernel
theorem dW_116 : decode code 116 = .ok (.iaload, 1) := by decide +kernel
theorem dW_117 : decode code 117 = .ok (.invokevirtual 35, 3) := by decide +kernel
theorem dW_120 : decode code 120 = .ok (.aload_n 2, 1) := by decide +kernel
theorem dW_121 : decode code 121 = .ok (.aload_n 0, 1) := by decide +kernel
theorem dW_122 : decode code 122 = .ok (.iload 4, 2) := by decide +kernel
theorem dW_124 : decode code 124 = .ok (.iconst (1), 1) := by decide +kernel
theorem dW_125 : decode code 125 = .ok (.iadd, 1) := by decide +kernel
theorem dW_126 : decode code 126 = .ok (.iaload, 1) := by decide +kernel
theorem dW_127 : decode code 127 = .ok (.i2l, 1) := by decide +kernel
theorem dW_128 : decode code 128 = .ok (.bipush (32), 2) := by decide +kernel
theorem dW_130 : decode code 130 = .ok (.lshl, 1) := by decide +kernel
theorem dW_131 : decode code 131 = .ok (.aload_n 0, 1) := by decide +kernel
theorem dW_132 : decode code 132 = .ok (.iload 4, 2) := by decide +kernel
theorem dW_134 : decode code 134 = .ok (.iconst (2), 1) := by decide +kernel
theorem dW_135 : decode code 135 = .ok (.iadd, 1) := by decide +kernel
theorem dW_136 : decode code 136 = .ok (.iaload, 1) := by decide +kernel
theorem dW_137 : decode code 137 = .ok (.i2l, 1) := by decide +kernel
theorem dW_138 : decode code 138 = .ok (.ldc2_w 33, 3) := by decide +kernel
theorem dW_141 : decode code 141 = .ok (.land, 1) := by decide +kernel
theorem dW_142 : decode code 142 = .ok (.lor, 1) := by decide +kernel
theorem dW_143 : decode code 143 = .ok (.aload_n 0, 1) := by decide +kernel
theorem dW_144 : decode code 144 = .ok (.iload 4, 2) := by decide +kernel
theorem dW_146 : decode code 146 = .ok (.iconst (3), 1) := by decide +kernel
theorem dW_147 : decode code 147 = .ok (.iadd, 1) := by decide +kernel
theorem dW_148 : decode code 148 = .ok (.iaload, 1) := by decide +kernel
theorem dW_149 : decode code 149 = .ok (.invokevirtual 39, 3) := by decide +kernel
theorem dW_152 : decode code 152 = .ok (.if_icmp .eq (317), 3) := by decide +kernel
theorem dW_155 : decode code 155 = .ok (.iconst (0), 1) := by decide +kernel
theorem dW_156 : decode code 156 = .ok (.ireturn, 1) := by decide +kernel
theorem dW_157 : decode code 157 = .ok (.aload_n 1, 1) := by decide +kernel
theorem dW_158 : decode code 158 = .ok (.invokevirtual 40, 3) := by decide +kernel
theorem dW_161 : decode code 161 = .ok (.aload_n 2, 1) := by decide +kernel
theorem dW_162 : decode code 162 = .ok (.invokevirtual 44, 3) := by decide +kernel
theorem dW_165 : decode code 165 = .ok (.if_icmp .eq (304), 3) := by decide +kernel
theorem dW_168 : decode code 168 = .ok (.iconst (0), 1) := by decide +kernel
theorem dW_169 : decode code 169 = .ok (.ireturn, 1) := by decide +kernel
theorem dW_170 : decode code 170 = .ok (.aload_n 1, 1) := by decide +kernel
theorem dW_171 : decode code 171 = .ok (.invokevirtual 45, 3) := by decide +kernel
theorem dW_174 : decode code 174 = .ok (.aload_n 2, 1) := by decide +kernel
theorem dW_175 : decode code 175 = .ok (.invokevirtual 48, 3) := by decide +kernel
theorem dW_178 : decode code 178 = .ok (.if_icmp .eq (291), 3) := by decide +kernel
theorem dW_181 : decode code 181 = .ok (.iconst (0), 1) := by decide +kernel
theorem dW_182 : decode code 182 = .ok (.ireturn, 1) := by decide +kernel
theorem dW_183 : decode code 183 = .ok (.aload_n 1, 1) := by decide +kernel
theorem dW_184 : decode code 184 = .ok (.aload_n 0, 1) := by decide +kernel
theorem dW_185 : decode code 185 = .ok (.iload 4, 2) := by decide +kernel
theorem dW_187 : decode code 187 = .ok (.iconst (1), 1) := by decide +kernel
theorem dW_188 : decode code 188 = .ok (.iadd, 1) := by decide +kernel
theorem dW_189 : decode code 189 = .ok (.iaload, 1) := by decide +kernel
theorem dW_190 : decode code 190 = .ok (.aload_n 3, 1) := by decide +kernel
theorem dW_191 : decode code 191 = .ok (.invokestatic 49, 3) := by decide +kernel
theorem dW_194 : decode code 194 = .ok (.istore 5, 2) := by decide +kernel
theorem dW_196 : decode code 196 = .ok (.aload_n 2, 1) := by decide +kernel
theorem dW_197 : decode code 197 = .ok (.aload_n 0, 1) := by decide +kernel
theorem dW_198 : decode code 198 = .ok (.iload 4, 2) := by decide +kernel
theorem dW_200 : decode code 200 = .ok (.iconst (1), 1) := by decide +kernel
theorem dW_201 : decode code 201 = .ok (.iadd, 1) := by decide +kernel
theorem dW_202 : decode code 202 = .ok (.iaload, 1) := by decide +kernel
theorem dW_203 : decode code 203 = .ok (.invokevirtual 54, 3) := by decide +kernel
theorem dW_206 : decode code 206 = .ok (.istore 6, 2) := by decide +kernel
theorem dW_208 : decode code 208 = .ok (.aload_n 2, 1) := by decide +kernel
theorem dW_209 : decode code 209 = .ok (.invokevirtual 55, 3) := by decide +kernel
theorem dW_212 : decode code 212 = .ok (.iload 5, 2) := by decide +kernel
theorem dW_214 : decode code 214 = .ok (.if_icmp .eq (5), 3) := by decide +kernel
theorem dW_217 : decode code 217 = .ok (.iconst (0), 1) := by decide +kernel
theorem dW_218 : decode code 218 = .ok (.ireturn, 1) := by decide +kernel
theorem dW_219 : decode code 219 = .ok (.iload 5, 2) := by decide +kernel
theorem dW_221 : decode code 221 = .ok (.ifCond .ne (15), 3) := by decide +kernel
theorem dW_224 : decode code 224 = .ok (.aload_n 3, 1) := by decide +kernel
theorem dW_225 : decode code 225 = .ok (.iconst (0), 1) := by decide +kernel
theorem dW_226 : decode code 226 = .ok (.laload, 1) := by decide +kernel
theorem dW_227 : decode code 227 = .ok (.iload 6, 2) := by decide +kernel
theorem dW_229 : decode code 229 = .ok (.i2l, 1) := by decide +kernel
theorem dW_230 : decode code 230 = .ok (.lcmp, 1) := by decide +kernel
theorem dW_231 : decode code 231 = .ok (.ifCond .eq (5), 3) := by decide +kernel
theorem dW_234 : decode code 234 = .ok (.iconst (0), 1) := by decide +kernel
theorem dW_235 : decode code 235 = .ok (.ireturn, 1) := by decide +kernel
theorem dW_236 : decode code 236 = .ok (.goto (233), 3) := by decide +kernel
theorem dW_239 : decode code 239 = .ok (.aload_n 1, 1) := by decide +kernel
theorem dW_240 : decode code 240 = .ok (.aload_n 0, 1) := by decide +kernel
theorem dW_241 : decode code 241 = .ok (.iload 4, 2) := by decide +kernel
theorem dW_243 : decode code 243 = .ok (.iconst (1), 1) := by decide +kernel
theorem dW_244 : decode code 244 = .ok (.iadd, 1) := by decide +kernel
theorem dW_245 : decode code 245 = .ok (.iaload, 1) := by decide +kernel
theorem dW_246 : decode code 246 = .ok (.aload_n 3, 1) := by decide +kernel
theorem dW_247 : decode code 247 = .ok (.invokestatic 58, 3) := by decide +kernel
theorem dW_250 : decode code 250 = .ok (.istore 5, 2) := by decide +kernel
theorem dW_252 : decode code 252 = .ok (.aload_n 2, 1) := by decide +kernel
theorem dW_253 : decode code 253 = .ok (.aload_n 0, 1) := by decide +kernel
theorem dW_254 : decode code 254 = .ok (.iload 4, 2) := by decide +kernel
theorem dW_256 : decode code 256 = .ok (.iconst (1), 1) := by decide +kernel
theorem dW_257 : decode code 257 = .ok (.iadd, 1) := by decide +kernel
theorem dW_258 : decode code 258 = .ok (.iaload, 1) := by decide +kernel
theorem dW_259 : decode code 259 = .ok (.invokevirtual 60, 3) := by decide +kernel
theorem dW_262 : decode code 262 = .ok (.istore 6, 2) := by decide +kernel
theorem dW_264 : decode code 264 = .ok (.aload_n 2, 1) := by decide +kernel
theorem dW_265 : decode code 265 = .ok (.invokevirtual 55, 3) := by decide +kernel
theorem dW_268 : decode code 268 = .ok (.iload 5, 2) := by decide +kernel
theorem dW_270 : decode code 270 = .ok (.if_icmp .eq (5), 3) := by decide +kernel
theorem dW_273 : decode code 273 = .ok (.iconst (0), 1) := by decide +kernel
theorem dW_274 : decode code 274 = .ok (.ireturn, 1) := by decide +kernel
theorem dW_275 : decode code 275 = .ok (.iload 5, 2) := by decide +kernel
theorem dW_277 : decode code 277 = .ok (.ifCond .ne (15), 3) := by decide +kernel
theorem dW_280 : decode code 280 = .ok (.aload_n 3, 1) := by decide +kernel
theorem dW_281 : decode code 281 = .ok (.iconst (0), 1) := by decide +kernel
theorem dW_282 : decode code 282 = .ok (.laload, 1) := by decide +kernel
theorem dW_283 : decode code 283 = .ok (.iload 6, 2) := by decide +kernel
theorem dW_285 : decode code 285 = .ok (.i2l, 1) := by decide +kernel
theorem dW_286 : decode code 286 = .ok (.lcmp, 1) := by decide +kernel
theorem dW_287 : decode code 287 = .ok (.ifCond .eq (5), 3) := by decide +kernel
theorem dW_290 : decode code 290 = .ok (.iconst (0), 1) := by decide +kernel
theorem dW_291 : decode code 291 = .ok (.ireturn, 1) := by decide +kernel
theorem dW_292 : decode code 292 = .ok (.goto (177), 3) := by decide +kernel
theorem dW_295 : decode code 295 = .ok (.aload_n 1, 1) := by decide +kernel
theorem dW_296 : decode code 296 = .ok (.aload_n 0, 1) := by decide +kernel
theorem dW_297 : decode code 297 = .ok (.iload 4, 2) := by decide +kernel
theorem dW_299 : decode code 299 = .ok (.iconst (1), 1) := by decide +kernel
theorem dW_300 : decode code 300 = .ok (.iadd, 1) := by decide +kernel
theorem dW_301 : decode code 301 = .ok (.iaload, 1) := by decide +kernel
theorem dW_302 : decode code 302 = .ok (.aload_n 3, 1) := by decide +kernel
theorem dW_303 : decode code 303 = .ok (.invokestatic 61, 3) := by decide +kernel
theorem dW_306 : decode code 306 = .ok (.istore 5, 2) := by decide +kernel
theorem dW_308 : decode code 308 = .ok (.aload_n 2, 1) := by decide +kernel
theorem dW_309 : decode code 309 = .ok (.aload_n 0, 1) := by decide +kernel
theorem dW_310 : decode code 310 = .ok (.iload 4, 2) := by decide +kernel
theorem dW_312 : decode code 312 = .ok (.iconst (1), 1) := by decide +kernel
theorem dW_313 : decode code 313 = .ok (.iadd, 1) := by decide +kernel
theorem dW_314 : decode code 314 = .ok (.iaload, 1) := by decide +kernel
theorem dW_315 : decode code 315 = .ok (.invokevirtual 63, 3) := by decide +kernel
theorem dW_318 : decode code 318 = .ok (.istore 6, 2) := by decide +kernel
theorem dW_320 : decode code 320 = .ok (.aload_n 2, 1) := by decide +kernel
theorem dW_321 : decode code 321 = .ok (.invokevirtual 55, 3) := by decide +kernel
theorem dW_324 : decode code 324 = .ok (.iload 5, 2) := by decide +kernel
theorem dW_326 : decode code 326 = .ok (.if_icmp .eq (5), 3) := by decide +kernel
theorem dW_329 : decode code 329 = .ok (.iconst (0), 1) := by decide +kernel
theorem dW_330 : decode code 330 = .ok (.ireturn, 1) := by decide +kernel
theorem dW_331 : decode code 331 = .ok (.iload 5, 2) := by decide +kernel
theorem dW_333 : decode code 333 = .ok (.ifCond .ne (15), 3) := by decide +kernel
theorem dW_336 : decode code 336 = .ok (.aload_n 3, 1) := by decide +kernel
theorem dW_337 : decode code 337 = .ok (.iconst (0), 1) := by decide +kernel
theorem dW_338 : decode code 338 = .ok (.laload, 1) := by decide +kernel
theorem dW_339 : decode code 339 = .ok (.iload 6, 2) := by decide +kernel
theorem dW_341 : decode code 341 = .ok (.i2l, 1) := by decide +kernel
theorem dW_342 : decode code 342 = .ok (.lcmp, 1) := by decide +kernel
theorem dW_343 : decode code 343 = .ok (.ifCond .eq (5), 3) := by decide +kernel
theorem dW_346 : decode code 346 = .ok (.iconst (0), 1) := by decide +kernel
theorem dW_347 : decode code 347 = .ok (.ireturn, 1) := by decide +kernel
theorem dW_348 : decode code 348 = .ok (.goto (121), 3) := by decide +kernel
theorem dW_351 : decode code 351 = .ok (.aload_n 1, 1) := by decide +kernel
theorem dW_352 : decode code 352 = .ok (.aload_n 0, 1) := by decide +kernel
theorem dW_353 : decode code 353 = .ok (.iload 4, 2) := by decide +kernel
theorem dW_355 : decode code 355 = .ok (.iconst (1), 1) := by decide +kernel
theorem dW_356 : decode code 356 = .ok (.iadd, 1) := by decide +kernel
theorem dW_357 : decode code 357 = .ok (.iaload, 1) := by decide +kernel
theorem dW_358 : decode code 358 = .ok (.aload_n 0, 1) := by decide +kernel
theorem dW_359 : decode code 359 = .ok (.iload 4, 2) := by decide +kernel
theorem dW_361 : decode code 361 = .ok (.iconst (2), 1) := by decide +kernel
theorem dW_362 : decode code 362 = .ok (.iadd, 1) := by decide +kernel
theorem dW_363 : decode code 363 = .ok (.iaload, 1) := by decide +kernel
theorem dW_364 : decode code 364 = .ok (.aload_n 3, 1) := by decide +kernel
theorem dW_365 : decode code 365 = .ok (.invokestatic 64, 3) := by decide +kernel
theorem dW_368 : decode code 368 = .ok (.istore 5, 2) := by decide +kernel
theorem dW_370 : decode code 370 = .ok (.aload_n 2, 1) := by decide +kernel
theorem dW_371 : decode code 371 = .ok (.aload_n 0, 1) := by decide +kernel
theorem dW_372 : decode code 372 = .ok (.iload 4, 2) := by decide +kernel
theorem dW_374 : decode code 374 = .ok (.iconst (1), 1) := by decide +kernel
theorem dW_375 : decode code 375 = .ok (.iadd, 1) := by decide +kernel
theorem dW_376 : decode code 376 = .ok (.iaload, 1) := by decide +kernel
theorem dW_377 : decode code 377 = .ok (.aload_n 0, 1) := by decide +kernel
theorem dW_378 : decode code 378 = .ok (.iload 4, 2) := by decide +kernel
theorem dW_380 : decode code 380 = .ok (.iconst (2), 1) := by decide +kernel
theorem dW_381 : decode code 381 = .ok (.iadd, 1) := by decide +kernel
theorem dW_382 : decode code 382 = .ok (.iaload, 1) := by decide +kernel
theorem dW_383 : decode code 383 = .ok (.invokevirtual 67, 3) := by decide +kernel
theorem dW_386 : decode code 386 = .ok (.istore 6, 2) := by decide +kernel
theorem dW_388 : decode code 388 = .ok (.aload_n 2, 1) := by decide +kernel
theorem dW_389 : decode code 389 = .ok (.invokevirtual 55, 3) := by decide +kernel
theorem dW_392 : decode code 392 = .ok (.iload 5, 2) := by decide +kernel
theorem dW_394 : decode code 394 = .ok (.if_icmp .eq (5), 3) := by decide +kernel
theorem dW_397 : decode code 397 = .ok (.iconst (0), 1) := by decide +kernel
theorem dW_398 : decode code 398 = .ok (.ireturn, 1) := by decide +kernel
theorem dW_399 : decode code 399 = .ok (.iload 5, 2) := by decide +kernel
theorem dW_401 : decode code 401 = .ok (.ifCond .ne (15), 3) := by decide +kernel
theorem dW_404 : decode code 404 = .ok (.aload_n 3, 1) := by decide +kernel
theorem dW_405 : decode code 405 = .ok (.iconst (0), 1) := by decide +kernel
theorem dW_406 : decode code 406 = .ok (.laload, 1) := by decide +kernel
theorem dW_407 : decode code 407 = .ok (.iload 6, 2) := by decide +kernel
theorem dW_409 : decode code 409 = .ok (.i2l, 1) := by decide +kernel
theorem dW_410 : decode code 410 = .ok (.lcmp, 1) := by decide +kernel
theorem dW_411 : decode code 411 = .ok (.ifCond .eq (5), 3) := by decide +kernel
theorem dW_414 : decode code 414 = .ok (.iconst (0), 1) := by decide +kernel
theorem dW_415 : decode code 415 = .ok (.ireturn, 1) := by decide +kernel
theorem dW_416 : decode code 416 = .ok (.goto (53), 3) := by decide +kernel
theorem dW_419 : decode code 419 = .ok (.aload_n 1, 1) := by decide +kernel
theorem dW_420 : decode code 420 = .ok (.aload_n 0, 1) := by decide +kernel
theorem dW_421 : decode code 421 = .ok (.iload 4, 2) := by decide +kernel
theorem dW_423 : decode code 423 = .ok (.iconst (1), 1) := by decide +kernel
theorem dW_424 : decode code 424 = .ok (.iadd, 1) := by decide +kernel
theorem dW_425 : decode code 425 = .ok (.iaload, 1) := by decide +kernel
theorem dW_426 : decode code 426 = .ok (.invokevirtual 68, 3) := by decide +kernel
theorem dW_429 : decode code 429 = .ok (.aload_n 2, 1) := by decide +kernel
theorem dW_430 : decode code 430 = .ok (.aload_n 0, 1) := by decide +kernel
theorem dW_431 : decode code 431 = .ok (.iload 4, 2) := by decide +kernel
theorem dW_433 : decode code 433 = .ok (.iconst (1), 1) := by decide +kernel
theorem dW_434 : decode code 434 = .ok (.iadd, 1) := by decide +kernel
theorem dW_435 : decode code 435 = .ok (.iaload, 1) := by decide +kernel
theorem dW_436 : decode code 436 = .ok (.invokevirtual 71, 3) := by decide +kernel
theorem dW_439 : decode code 439 = .ok (.if_icmp .eq (30), 3) := by decide +kernel
theorem dW_442 : decode code 442 = .ok (.iconst (0), 1) := by decide +kernel
theorem dW_443 : decode code 443 = .ok (.ireturn, 1) := by decide +kernel
theorem dW_444 : decode code 444 = .ok (.aload_n 1, 1) := by decide +kernel
theorem dW_445 : decode code 445 = .ok (.aload_n 0, 1) := by decide +kernel
theorem dW_446 : decode code 446 = .ok (.iload 4, 2) := by decide +kernel
theorem dW_448 : decode code 448 = .ok (.iconst (1), 1) := by decide +kernel
theorem dW_449 : decode code 449 = .ok (.iadd, 1) := by decide +kernel
theorem dW_450 : decode code 450 = .ok (.iaload, 1) := by decide +kernel
theorem dW_451 : decode code 451 = .ok (.invokevirtual 72, 3) := by decide +kernel
theorem dW_454 : decode code 454 = .ok (.aload_n 2, 1) := by decide +kernel
theorem dW_455 : decode code 455 = .ok (.aload_n 0, 1) := by decide +kernel
theorem dW_456 : decode code 456 = .ok (.iload 4, 2) := by decide +kernel
theorem dW_458 : decode code 458 = .ok (.iconst (1), 1) := by decide +kernel
theorem dW_459 : decode code 459 = .ok (.iadd, 1) := by decide +kernel
theorem dW_460 : decode code 460 = .ok (.iaload, 1) := by decide +kernel
theorem dW_461 : decode code 461 = .ok (.invokevirtual 75, 3) := by decide +kernel
theorem dW_464 : decode code 464 = .ok (.if_icmp .eq (5), 3) := by decide +kernel
theorem dW_467 : decode code 467 = .ok (.iconst (0), 1) := by decide +kernel
theorem dW_468 : decode code 468 = .ok (.ireturn, 1) := by decide +kernel
theorem dW_469 : decode code 469 = .ok (.iinc 4 (4), 3) := by decide +kernel
theorem dW_472 : decode code 472 = .ok (.goto (-449), 3) := by decide +kernel
theorem dW_475 : decode code 475 = .ok (.iconst (1), 1) := by decide +kernel
theorem dW_476 : decode code 476 = .ok (.ireturn, 1) := by decide +kernel
abbrev wdZ (a1 a2 : Int32) : Int64 := (a1.toInt64 <<< ((32 : Int32).toInt64 &&& 63)) ||| (a2.toInt64 &&& 4294967295)
abbrev lwW (dA : Nat → ClassId) (ao : Nat) (f : Nat → Int64) (h : Nat → Nat) (σ : MS) (o b i : Nat → Nat) (sG : CS) (sR : CS) (sL : CS) (sX : CS) (sE : CS) (sY : CS) (sF : CS) (sN : CS) (sT : CS) (sP : CS) (sI : CS) : List va_W := [(ao, .inl (dA 0, 1, .inr (.inl f)))] :: wM dA h σ :: w_Asm dA o b i sG sR sL sX sE sY sF sN sT sP sI
theorem lg0 (x : Int64) : lg_cmp x x = 0 := by simp [lg_cmp]
theorem upO0 (f : Nat → Int64) (x : Int64) : upO f x (Int32.toNatClampNeg 0) = x := by simp [upO, vp_updL]
theorem gL_35 : GoodIn lw_gd (wsV "LineAssemblerLaw" 35 R_Asm yC_Asm_feed (.code yC_Asm_feed cC_Asm_feed 5 (some .boolean) :: lw_gd)) := lw_GV qc_588 qc_585 qc_586 qc_587 qc_1
theorem gL_39 : GoodIn lw_gd (wsV "LineAssemblerLaw" 39 RM yM_feed (.code yM_feed cM_feed 6 (some .boolean) :: lw_gd)) := lw_GV qc_1787 qc_1784 qc_1785 qc_1786 qc_23
theorem gL_40 : GoodIn lw_gd (wsV "LineAssemblerLaw" 40 R_Asm yC_Asm_clear (.code yC_Asm_clear cC_Asm_clear 2 (some .int) :: lw_gd)) := lw_GV qc_597 qc_594 qc_595 qc_596 qc_1
theorem gL_44 : GoodIn lw_gd (wsV "LineAssemblerLaw" 44 RM yM_clear (.code yM_clear cM_clear 2 (some .int) :: lw_gd)) := lw_GV qc_1793 qc_1790 qc_1791 qc_1792 qc_23
theorem gL_45 : GoodIn lw_gd (wsV "LineAssemblerLaw" 45 R_Asm yC_Asm_assemble (.code yC_Asm_assemble cC_Asm_assemble 4 (some .int) :: lw_gd)) := lw_GV qc_602 qc_599 qc_600 qc_601 qc_1
theorem gL_48 : GoodIn lw_gd (wsV "LineAssemblerLaw" 48 RM yM_assemble (.code yM_assemble cM_assemble 2 (some .int) :: lw_gd)) := lw_GV qc_1797 qc_1794 qc_1795 qc_1796 qc_23
theorem gL_68 : GoodIn lw_gd (wsV "LineAssemblerLaw" 68 R_Asm yC_Asm_line (.code yC_Asm_line cC_Asm_line 2 (some .int) :: lw_gd)) := lw_GV qc_1398 qc_1395 qc_1396 qc_1397 qc_1
theorem gL_71 : GoodIn lw_gd (wsV "LineAssemblerLaw" 71 RM yM_line (.code yM_line cM_line 3 (some .int) :: lw_gd)) := lw_GV qc_2161 qc_2158 qc_2159 qc_2160 qc_23
theorem gL_72 : GoodIn lw_gd (wsV "LineAssemblerLaw" 72 R_Asm yC_Asm_before (.code yC_Asm_before cC_Asm_before 7 (some .int) :: lw_gd)) := lw_GV qc_1403 qc_1400 qc_1401 qc_1402 qc_1
theorem gL_75 : GoodIn lw_gd (wsV "LineAssemblerLaw" 75 RM yM_before (.code yM_before cM_before 7 (some .int) :: lw_gd)) := lw_GV qc_2165 qc_2162 qc_2163 qc_2164 qc_23
theorem gL_54 : GoodIn lw_gd (wsV "LineAssemblerLaw" 54 RM yM_size (.code yM_size cM_size 2 (some .int) :: lw_gd)) := lw_GV qc_2129 qc_2126 qc_2127 qc_2128 qc_23
theorem gL_55 : GoodIn lw_gd (wsV "LineAssemblerLaw" 55 RM yM_thrown (.code yM_thrown cM_thrown 1 (some .int) :: lw_gd)) := lw_GV qc_1783 qc_1780 qc_1781 qc_1782 qc_23
theorem gL_60 : GoodIn lw_gd (wsV "LineAssemblerLaw" 60 RM yM_byteAt (.code yM_byteAt cM_byteAt 3 (some .int) :: lw_gd)) := lw_GV qc_2141 qc_2138 qc_2139 qc_2140 qc_23
theorem gL_63 : GoodIn lw_gd (wsV "LineAssemblerLaw" 63 RM yM_address (.code yM_address cM_address 3 (some .int) :: lw_gd)) := lw_GV qc_2149 qc_2146 qc_2147 qc_2148 qc_23
theorem gL_67 : GoodIn lw_gd (wsV "LineAssemblerLaw" 67 RM yM_letter (.code yM_letter cM_letter 5 (some .char) :: lw_gd)) := lw_GV qc_2157 qc_2154 qc_2155 qc_2156 qc_23
section
variable {p : Program} {l : Launch} {e : Env} {s : State} {m : MethodId} {args : Array Value} {below : List Frame} {meth : Method} {c : Code} {D : va_G} {dA : Nat → ClassId} {o b i h : Nat → Nat} {A : Nat → Prop} {H : Heap} {locs : List Loc} {cells slots : Nat} {Q : State → Prop} {ls : Array Slot} {bs L ao : Nat} {xs : Nat → Int32} {x4 : Int32} {f : Nat → Int64} {σ σ' : MS} {sG sR sL sX sE sY sF sN sT sP sI : CS}
set_option maxHeartbeats 4000000 in
set_option maxRecDepth 100000 in
theorem lawW_0 (C : CxC "LineAssemblerLaw" p s m args meth c code 7 ret D dA (zz o) A) (hX : va_X bs L xs s s.heap) (hbl : bs < s.heap.size) (hbA : ¬ A bs) (hi1 : vp_in (x4 + 1) L) (hi2 : vp_in (x4 + 2) L) (hi3 : vp_in (x4 + 3) L) (N : Nat) {r : Int32} {u : CS} {dc ds : Nat} (hC : C_Asm_feed N (wdZ (xs (x4 + 1).toNatClampNeg) (xs (x4 + 2).toNatClampNeg)) (xs (x4 + 3).toNatClampNeg) sG sR sL sX sE sY sF sN sT sP sI = some ((r, u), (dc, ds))) (hM : M_feed N (wdZ (xs (x4 + 1).toNatClampNeg) (xs (x4 + 2).toNatClampNeg)) (xs (x4 + 3).toNatClampNeg) σ = some (r, σ')) (hc : cells + dc ≤ 601024) (hs : slots + ds ≤ 7293034) (hW : WdC D A s (lwW dA ao f h σ o b i sG sR sL sX sE sY sF sN sT sP sI) H locs) (hl : lv_has ls 7 [(0, .ref bs), (1, .ref (o 144)), (2, .ref (h 0)), (3, .ref ao), (4, .int x4)]) (kk : ∀ (b' i' : Nat → Nat) (f' : Nat → Int64) (H1 : Heap) (locs1 : List Loc) (ls1 : Array Slot), lv_has ls1 7 [(0, .ref bs), (1, .ref (o 144)), (2, .ref (h 0)), (3, .ref ao), (4, .int x4)] → WdC D A s (lwW dA ao f' h σ' o b' i' sG sR sL u sE sY sF sN sT sP sI) H1 locs1 → W p l e room_1 s m args below meth c H1 locs1 (cells + dc) (slots + ds) Q (F0 m 469 ls1 [])) : W p l e room_1 s m args below meth c H locs cells slots Q (F0 m 88 ls []) := by
  have hx := C.1.1
  have hb := C.1.2.1
  have hown := C.1.2.2.2.2.1
  have hT := C.1.2.2.2.2.2.1
  refine lv_aload_n (pc := 88) hx hb dW_88 rfl (lv_at hl 1 rfl) ?_
  refine lv_aload_n (pc := 89) hx hb dW_89 rfl (lv_at hl 0 rfl) ?_
  refine lv_iload (pc := 90) hx hb dW_90 (lv_at hl 4 rfl) ?_
  refine lv_iconst (pc := 92) (v := 1) hx hb dW_92 (by decide) ?_
  refine lv_iadd (pc := 93) hx hb dW_93 ?_
  refine va_sld (pc := 94) hx hb hX hbl hbA hW.2.2 hi1 dW_94 ?_
  refine lv_i2l (pc := 95) (v := (xs (x4 + 1).toNatClampNeg).toInt64) hx hb dW_95 rfl ?_
  refine lv_bipush (pc := 96) (v := 32) hx hb dW_96 (by decide) ?_
  refine lv_lshl (pc := 98) (v := (xs (x4 + 1).toNatClampNeg).toInt64 <<< ((32 : Int32).toInt64 &&& 63)) hx hb dW_98 rfl ?_
  refine lv_aload_n (pc := 99) hx hb dW_99 rfl (lv_at hl 0 rfl) ?_
  refine lv_iload (pc := 100) hx hb dW_100 (lv_at hl 4 rfl) ?_
  refine lv_iconst (pc := 102) (v := 2) hx hb dW_102 (by decide) ?_
  refine lv_iadd (pc := 103) hx hb dW_103 ?_
  refine va_sld (pc := 104) hx hb hX hbl hbA hW.2.2 hi2 dW_104 ?_
  refine lv_i2l (pc := 105) (v := (xs (x4 + 2).toNatClampNeg).toInt64) hx hb dW_105 rfl ?_
  refine lv_ldc2 (pc := 106) (v := 4294967295) hx hb hown (hT _ qc_2166) dW_106 ?_
  refine lv_land (pc := 109) hx hb dW_109 ?_
  refine lv_lor (pc := 110) hx hb dW_110 ?_
  refine lv_aload_n (pc := 111) hx hb dW_111 rfl (lv_at hl 0 rfl) ?_
  refine lv_iload (pc := 112) hx hb dW_112 (lv_at hl 4 rfl) ?_
  refine lv_iconst (pc := 114) (v := 3) hx hb dW_114 (by decide) ?_
  refine lv_iadd (pc := 115) hx hb dW_115 ?_
  refine va_sld (pc := 116) hx hb hX hbl hbA hW.2.2 hi3 dW_116 ?_
  refine x_callC (pc := 117) (n' := 54) C hW (kC_Asm_feed l D dA o b i N (wdZ (xs (x4 + 1).toNatClampNeg) (xs (x4 + 2).toNatClampNeg)) (xs (x4 + 3).toNatClampNeg) sG sR sL sX sE sY sF sN sT sP sI hC) [2, 3, 4, 5, 6, 7, 8, 9, 10, 11, 12, 13, 14, 15, 16, 17, 18, 19, 20, 21, 22, 23, 24, 25, 26, 27, 28, 29, 30, 31, 32, 33, 34, 35, 36, 37, 38, 39, 40, 41, 42, 43, 44, 45, 46, 47, 48, 49, 50, 51, 52, 53, 0, 1] rfl (by decide +kernel) rfl (ci := 10) rfl (q0 := 13) rfl gL_35 ⟨rfl, by decide, by decide, by decide +kernel⟩ ⟨Nat.le_of_ble_eq_true rfl, Nat.le_of_ble_eq_true rfl⟩ ⟨show _ ≤ 601024 by omega, show _ ≤ 7293034 by omega⟩ (As := [.long (wdZ (xs (x4 + 1).toNatClampNeg) (xs (x4 + 2).toNatClampNeg)), .int (xs (x4 + 3).toNatClampNeg)]) (n := 2) rfl hl.1 rfl (Nat.le_of_ble_eq_true rfl) dW_117 (fun Wc' ov H locs hPo hWn => ?_)
  obtain ⟨b1, rfl, rfl⟩ := hPo
  have hW := hWn (lwW dA ao (f) h σ o b1 i sG sR sL u sE sY sF sN sT sP sI) rfl rfl
  refine lv_aload_n (pc := 120) hx hb dW_120 rfl (lv_at hl 2 rfl) ?_
  refine lv_aload_n (pc := 121) hx hb dW_121 rfl (lv_at hl 0 rfl) ?_
  refine lv_iload (pc := 122) hx hb dW_122 (lv_at hl 4 rfl) ?_
  refine lv_iconst (pc := 124) (v := 1) hx hb dW_124 (by decide) ?_
  refine lv_iadd (pc := 125) hx hb dW_125 ?_
  refine va_sld (pc := 126) hx hb hX hbl hbA hW.2.2 hi1 dW_126 ?_
  refine lv_i2l (pc := 127) (v := (xs (x4 + 1).toNatClampNeg).toInt64) hx hb dW_127 rfl ?_
  refine lv_bipush (pc := 128) (v := 32) hx hb dW_128 (by decide) ?_
  refine lv_lshl (pc := 130) (v := (xs (x4 + 1).toNatClampNeg).toInt64 <<< ((32 : Int32).toInt64 &&& 63)) hx hb dW_130 rfl ?_
  refine lv_aload_n (pc := 131) hx hb dW_131 rfl (lv_at hl 0 rfl) ?_
  refine lv_iload (pc := 132) hx hb dW_132 (lv_at hl 4 rfl) ?_
  refine lv_iconst (pc := 134) (v := 2) hx hb dW_134 (by decide) ?_
  refine lv_iadd (pc := 135) hx hb dW_135 ?_
  refine va_sld (pc := 136) hx hb hX hbl hbA hW.2.2 hi2 dW_136 ?_
  refine lv_i2l (pc := 137) (v := (xs (x4 + 2).toNatClampNeg).toInt64) hx hb dW_137 rfl ?_
  refine lv_ldc2 (pc := 138) (v := 4294967295) hx hb hown (hT _ qc_2166) dW_138 ?_
  refine lv_land (pc := 141) hx hb dW_141 ?_
  refine lv_lor (pc := 142) hx hb dW_142 ?_
  refine lv_aload_n (pc := 143) hx hb dW_143 rfl (lv_at hl 0 rfl) ?_
  refine lv_iload (pc := 144) hx hb dW_144 (lv_at hl 4 rfl) ?_
  refine lv_iconst (pc := 146) (v := 3) hx hb dW_146 (by decide) ?_
  refine lv_iadd (pc := 147) hx hb dW_147 ?_
  refine va_sld (pc := 148) hx hb hX hbl hbA hW.2.2 hi3 dW_148 ?_
  refine x_callC (pc := 149) (n' := 54) C hW ((kM_feed l D dA h N (wdZ (xs (x4 + 1).toNatClampNeg) (xs (x4 + 2).toNatClampNeg)) (xs (x4 + 3).toNatClampNeg) σ hM).up (f := _) (lo := _) rfl) [1, 0, 2, 3, 4, 5, 6, 7, 8, 9, 10, 11, 12, 13, 14, 15, 16, 17, 18, 19, 20, 21, 22, 23, 24, 25, 26, 27, 28, 29, 30, 31, 32, 33, 34, 35, 36, 37, 38, 39, 40, 41, 42, 43, 44, 45, 46, 47, 48, 49, 50, 51, 52, 53] rfl (by decide +kernel) rfl (ci := 0) rfl (q0 := 1) rfl gL_39 ⟨rfl, by decide, by decide, by decide +kernel⟩ ⟨Nat.le_of_ble_eq_true rfl, Nat.le_of_ble_eq_true rfl⟩ ⟨show _ ≤ 601024 by omega, show _ ≤ 7293034 by omega⟩ (As := [.long (wdZ (xs (x4 + 1).toNatClampNeg) (xs (x4 + 2).toNatClampNeg)), .int (xs (x4 + 3).toNatClampNeg)]) (n := 2) rfl hl.1 rfl (Nat.le_of_ble_eq_true rfl) dW_149 (fun Wc' ov H locs hPo hWn => ?_)
  obtain ⟨rfl, rfl⟩ := hPo
  have hW := hWn (lwW dA ao (f) h σ' o b1 i sG sR sL u sE sY sF sN sT sP sI) rfl rfl
  refine lv_icmp_eq (pc := 152) (tgt := 469) hx hb dW_152 (by decide) (fun _ => ?_) (fun hne => absurd rfl hne)
  exact kk b1 i (f) H locs ls (lv_sub hl [0, 1, 2, 3, 4] rfl) hW
set_option maxHeartbeats 4000000 in
set_option maxRecDepth 100000 in
theorem lawW_1 (C : CxC "LineAssemblerLaw" p s m args meth c code 7 ret D dA (zz o) A) (hX : va_X bs L xs s s.heap) (hbl : bs < s.heap.size) (hbA : ¬ A bs) (hi1 : vp_in (x4 + 1) L) (hi2 : vp_in (x4 + 2) L) (hi3 : vp_in (x4 + 3) L) (N : Nat) {r : Int32} {u : CS} (hC : C_Asm_clear  sG sR sL sX sE sY sF sN sT sP sI = some (r, u)) (hM : M_clear  σ = some (r, σ')) (hc : cells + 0 ≤ 601024) (hs : slots + 0 ≤ 7293034) (hW : WdC D A s (lwW dA ao f h σ o b i sG sR sL sX sE sY sF sN sT sP sI) H locs) (hl : lv_has ls 7 [(0, .ref bs), (1, .ref (o 144)), (2, .ref (h 0)), (3, .ref ao), (4, .int x4)]) (kk : ∀ (b' i' : Nat → Nat) (f' : Nat → Int64) (H1 : Heap) (locs1 : List Loc) (ls1 : Array Slot), lv_has ls1 7 [(0, .ref bs), (1, .ref (o 144)), (2, .ref (h 0)), (3, .ref ao), (4, .int x4)] → WdC D A s (lwW dA ao f' h σ' o b' i' sG sR sL u sE sY sF sN sT sP sI) H1 locs1 → W p l e room_1 s m args below meth c H1 locs1 (cells + 0) (slots + 0) Q (F0 m 469 ls1 [])) : W p l e room_1 s m args below meth c H locs cells slots Q (F0 m 157 ls []) := by
  have hx := C.1.1
  have hb := C.1.2.1
  have hown := C.1.2.2.2.2.1
  have hT := C.1.2.2.2.2.2.1
  refine lv_aload_n (pc := 157) hx hb dW_157 rfl (lv_at hl 1 rfl) ?_
  refine x_callC (pc := 158) (n' := 54) C hW (kC_Asm_clear l D dA o b i  sG sR sL sX sE sY sF sN sT sP sI hC) [2, 3, 4, 5, 6, 7, 8, 9, 10, 11, 12, 13, 14, 15, 16, 17, 18, 19, 20, 21, 22, 23, 24, 25, 26, 27, 28, 29, 30, 31, 32, 33, 34, 35, 36, 37, 38, 39, 40, 41, 42, 43, 44, 45, 46, 47, 48, 49, 50, 51, 52, 53, 0, 1] rfl (by decide +kernel) rfl (ci := 10) rfl (q0 := 13) rfl gL_40 ⟨rfl, by decide, by decide, by decide +kernel⟩ ⟨Nat.le_of_ble_eq_true rfl, Nat.le_of_ble_eq_true rfl⟩ ⟨show _ ≤ 601024 by omega, show _ ≤ 7293034 by omega⟩ (As := []) (n := 0) rfl hl.1 rfl (Nat.le_of_ble_eq_true rfl) dW_158 (fun Wc' ov H locs hPo hWn => ?_)
  obtain ⟨rfl, rfl⟩ := hPo
  have hW := hWn (lwW dA ao (f) h σ o b i sG sR sL u sE sY sF sN sT sP sI) rfl rfl
  refine lv_aload_n (pc := 161) hx hb dW_161 rfl (lv_at hl 2 rfl) ?_
  refine x_callC (pc := 162) (n' := 54) C hW ((kM_clear l D dA h  σ hM).up (f := _) (lo := _) rfl) [1, 0, 2, 3, 4, 5, 6, 7, 8, 9, 10, 11, 12, 13, 14, 15, 16, 17, 18, 19, 20, 21, 22, 23, 24, 25, 26, 27, 28, 29, 30, 31, 32, 33, 34, 35, 36, 37, 38, 39, 40, 41, 42, 43, 44, 45, 46, 47, 48, 49, 50, 51, 52, 53] rfl (by decide +kernel) rfl (ci := 0) rfl (q0 := 1) rfl gL_44 ⟨rfl, by decide, by decide, by decide +kernel⟩ ⟨Nat.le_of_ble_eq_true rfl, Nat.le_of_ble_eq_true rfl⟩ ⟨show _ ≤ 601024 by omega, show _ ≤ 7293034 by omega⟩ (As := []) (n := 0) rfl hl.1 rfl (Nat.le_of_ble_eq_true rfl) dW_162 (fun Wc' ov H locs hPo hWn => ?_)
  obtain ⟨rfl, rfl⟩ := hPo
  have hW := hWn (lwW dA ao (f) h σ' o b i sG sR sL u sE sY sF sN sT sP sI) rfl rfl
  refine lv_icmp_eq (pc := 165) (tgt := 469) hx hb dW_165 (by decide) (fun _ => ?_) (fun hne => absurd rfl hne)
  exact kk b i (f) H locs ls (lv_sub hl [0, 1, 2, 3, 4] rfl) hW
set_option maxHeartbeats 4000000 in
set_option maxRecDepth 100000 in
theorem lawW_2 (C : CxC "LineAssemblerLaw" p s m args meth c code 7 ret D dA (zz o) A) (hX : va_X bs L xs s s.heap) (hbl : bs < s.heap.size) (hbA : ¬ A bs) (hi1 : vp_in (x4 + 1) L) (hi2 : vp_in (x4 + 2) L) (hi3 : vp_in (x4 + 3) L) (N : Nat) {r : Int32} {u : CS × CS × CS × CS × CS × CS × CS × CS × CS} {dc ds : Nat} (hC : C_Asm_assemble N  sG sR sL sX sE sY sF sN sT sP sI = some ((r, u), (dc, ds))) (hM : M_assemble N  σ = some (r, σ')) (hc : cells + dc ≤ 601024) (hs : slots + ds ≤ 7293034) (hW : WdC D A s (lwW dA ao f h σ o b i sG sR sL sX sE sY sF sN sT sP sI) H locs) (hl : lv_has ls 7 [(0, .ref bs), (1, .ref (o 144)), (2, .ref (h 0)), (3, .ref ao), (4, .int x4)]) (kk : ∀ (b' i' : Nat → Nat) (f' : Nat → Int64) (H1 : Heap) (locs1 : List Loc) (ls1 : Array Slot), lv_has ls1 7 [(0, .ref bs), (1, .ref (o 144)), (2, .ref (h 0)), (3, .ref ao), (4, .int x4)] → WdC D A s (lwW dA ao f' h σ' o b' i' u.1 sR u.2.1 sX u.2.2.1 u.2.2.2.1 u.2.2.2.2.1 u.2.2.2.2.2.1 u.2.2.2.2.2.2.1 u.2.2.2.2.2.2.2.1 u.2.2.2.2.2.2.2.2) H1 locs1 → W p l e room_1 s m args below meth c H1 locs1 (cells + dc) (slots + ds) Q (F0 m 469 ls1 [])) : W p l e room_1 s m args below meth c H locs cells slots Q (F0 m 170 ls []) := by
  have hx := C.1.1
  have hb := C.1.2.1
  have hown := C.1.2.2.2.2.1
  have hT := C.1.2.2.2.2.2.1
  refine lv_aload_n (pc := 170) hx hb dW_170 rfl (lv_at hl 1 rfl) ?_
  refine x_callC (pc := 171) (n' := 54) C hW (kC_Asm_assemble l D dA o b i N  sG sR sL sX sE sY sF sN sT sP sI hC) [2, 3, 4, 5, 6, 7, 8, 9, 10, 11, 12, 13, 14, 15, 16, 17, 18, 19, 20, 21, 22, 23, 24, 25, 26, 27, 28, 29, 30, 31, 32, 33, 34, 35, 36, 37, 38, 39, 40, 41, 42, 43, 44, 45, 46, 47, 48, 49, 50, 51, 52, 53, 0, 1] rfl (by decide +kernel) rfl (ci := 10) rfl (q0 := 13) rfl gL_45 ⟨rfl, by decide, by decide, by decide +kernel⟩ ⟨Nat.le_of_ble_eq_true rfl, Nat.le_of_ble_eq_true rfl⟩ ⟨show _ ≤ 601024 by omega, show _ ≤ 7293034 by omega⟩ (As := []) (n := 0) rfl hl.1 rfl (Nat.le_of_ble_eq_true rfl) dW_171 (fun Wc' ov H locs hPo hWn => ?_)
  obtain ⟨b1, i1, rfl, rfl⟩ := hPo
  have hW := hWn (lwW dA ao (f) h σ o b1 i1 u.1 sR u.2.1 sX u.2.2.1 u.2.2.2.1 u.2.2.2.2.1 u.2.2.2.2.2.1 u.2.2.2.2.2.2.1 u.2.2.2.2.2.2.2.1 u.2.2.2.2.2.2.2.2) rfl rfl
  refine lv_aload_n (pc := 174) hx hb dW_174 rfl (lv_at hl 2 rfl) ?_
  refine x_callC (pc := 175) (n' := 54) C hW ((kM_assemble l D dA h N  σ hM).up (f := _) (lo := _) rfl) [1, 0, 2, 3, 4, 5, 6, 7, 8, 9, 10, 11, 12, 13, 14, 15, 16, 17, 18, 19, 20, 21, 22, 23, 24, 25, 26, 27, 28, 29, 30, 31, 32, 33, 34, 35, 36, 37, 38, 39, 40, 41, 42, 43, 44, 45, 46, 47, 48, 49, 50, 51, 52, 53] rfl (by decide +kernel) rfl (ci := 0) rfl (q0 := 1) rfl gL_48 ⟨rfl, by decide, by decide, by decide +kernel⟩ ⟨Nat.le_of_ble_eq_true rfl, Nat.le_of_ble_eq_true rfl⟩ ⟨show _ ≤ 601024 by omega, show _ ≤ 7293034 by omega⟩ (As := []) (n := 0) rfl hl.1 rfl (Nat.le_of_ble_eq_true rfl) dW_175 (fun Wc' ov H locs hPo hWn => ?_)
  obtain ⟨rfl, rfl⟩ := hPo
  have hW := hWn (lwW dA ao (f) h σ' o b1 i1 u.1 sR u.2.1 sX u.2.2.1 u.2.2.2.1 u.2.2.2.2.1 u.2.2.2.2.2.1 u.2.2.2.2.2.2.1 u.2.2.2.2.2.2.2.1 u.2.2.2.2.2.2.2.2) rfl rfl
  refine lv_icmp_eq (pc := 178) (tgt := 469) hx hb dW_178 (by decide) (fun _ => ?_) (fun hne => absurd rfl hne)
  exact kk b1 i1 (f) H locs ls (lv_sub hl [0, 1, 2, 3, 4] rfl) hW
set_option maxHeartbeats 4000000 in
set_option maxRecDepth 100000 in
theorem lawW_7 (C : CxC "LineAssemblerLaw" p s m args meth c code 7 ret D dA (zz o) A) (hX : va_X bs L xs s s.heap) (hbl : bs < s.heap.size) (hbA : ¬ A bs) (hi1 : vp_in (x4 + 1) L) (hi2 : vp_in (x4 + 2) L) (hi3 : vp_in (x4 + 3) L) (N : Nat) {r : Int32} (hC : C_Asm_line (xs (x4 + 1).toNatClampNeg) sG sR sL sX sE sY sF sN sT sP sI = some r) (hM : M_line N (xs (x4 + 1).toNatClampNeg) σ = some (r, σ')) (hc : cells + 0 ≤ 601024) (hs : slots + 0 ≤ 7293034) (hW : WdC D A s (lwW dA ao f h σ o b i sG sR sL sX sE sY sF sN sT sP sI) H locs) (hl : lv_has ls 7 [(0, .ref bs), (1, .ref (o 144)), (2, .ref (h 0)), (3, .ref ao), (4, .int x4)]) (kk : ∀ (b' i' : Nat → Nat) (f' : Nat → Int64) (H1 : Heap) (locs1 : List Loc) (ls1 : Array Slot), lv_has ls1 7 [(0, .ref bs), (1, .ref (o 144)), (2, .ref (h 0)), (3, .ref ao), (4, .int x4)] → WdC D A s (lwW dA ao f' h σ' o b' i' sG sR sL sX sE sY sF sN sT sP sI) H1 locs1 → W p l e room_1 s m args below meth c H1 locs1 (cells + 0) (slots + 0) Q (F0 m 469 ls1 [])) : W p l e room_1 s m args below meth c H locs cells slots Q (F0 m 419 ls []) := by
  have hx := C.1.1
  have hb := C.1.2.1
  have hown := C.1.2.2.2.2.1
  have hT := C.1.2.2.2.2.2.1
  refine lv_aload_n (pc := 419) hx hb dW_419 rfl (lv_at hl 1 rfl) ?_
  refine lv_aload_n (pc := 420) hx hb dW_420 rfl (lv_at hl 0 rfl) ?_
  refine lv_iload (pc := 421) hx hb dW_421 (lv_at hl 4 rfl) ?_
  refine lv_iconst (pc := 423) (v := 1) hx hb dW_423 (by decide) ?_
  refine lv_iadd (pc := 424) hx hb dW_424 ?_
  refine va_sld (pc := 425) hx hb hX hbl hbA hW.2.2 hi1 dW_425 ?_
  refine x_callQ (pc := 426) (n' := 54) (ov := some (.int r)) C hW (kC_Asm_line l D dA o b i (xs (x4 + 1).toNatClampNeg) sG sR sL sX sE sY sF sN sT sP sI hC) [2, 3, 4, 5, 6, 7, 8, 9, 10, 11, 12, 13, 14, 15, 16, 17, 18, 19, 20, 21, 22, 23, 24, 25, 26, 27, 28, 29, 30, 31, 32, 33, 34, 35, 36, 37, 38, 39, 40, 41, 42, 43, 44, 45, 46, 47, 48, 49, 50, 51, 52, 53, 0, 1] rfl (by decide +kernel) rfl (ci := 10) rfl (q0 := 13) rfl gL_68 ⟨rfl, by decide, by decide, by decide +kernel⟩ ⟨Nat.le_of_ble_eq_true rfl, Nat.le_of_ble_eq_true rfl⟩ ⟨show _ ≤ 601024 by omega, show _ ≤ 7293034 by omega⟩ (As := [.int (xs (x4 + 1).toNatClampNeg)]) (n := 1) rfl hl.1 rfl (Nat.le_of_ble_eq_true rfl) dW_426 ?_
  refine lv_aload_n (pc := 429) hx hb dW_429 rfl (lv_at hl 2 rfl) ?_
  refine lv_aload_n (pc := 430) hx hb dW_430 rfl (lv_at hl 0 rfl) ?_
  refine lv_iload (pc := 431) hx hb dW_431 (lv_at hl 4 rfl) ?_
  refine lv_iconst (pc := 433) (v := 1) hx hb dW_433 (by decide) ?_
  refine lv_iadd (pc := 434) hx hb dW_434 ?_
  refine va_sld (pc := 435) hx hb hX hbl hbA hW.2.2 hi1 dW_435 ?_
  refine x_callC (pc := 436) (n' := 54) C hW ((kM_line l D dA h N (xs (x4 + 1).toNatClampNeg) σ hM).up (f := _) (lo := _) rfl) [1, 0, 2, 3, 4, 5, 6, 7, 8, 9, 10, 11, 12, 13, 14, 15, 16, 17, 18, 19, 20, 21, 22, 23, 24, 25, 26, 27, 28, 29, 30, 31, 32, 33, 34, 35, 36, 37, 38, 39, 40, 41, 42, 43, 44, 45, 46, 47, 48, 49, 50, 51, 52, 53] rfl (by decide +kernel) rfl (ci := 0) rfl (q0 := 1) rfl gL_71 ⟨rfl, by decide, by decide, by decide +kernel⟩ ⟨Nat.le_of_ble_eq_true rfl, Nat.le_of_ble_eq_true rfl⟩ ⟨show _ ≤ 601024 by omega, show _ ≤ 7293034 by omega⟩ (As := [.int (xs (x4 + 1).toNatClampNeg)]) (n := 1) rfl hl.1 rfl (Nat.le_of_ble_eq_true rfl) dW_436 (fun Wc' ov H locs hPo hWn => ?_)
  obtain ⟨rfl, rfl⟩ := hPo
  have hW := hWn (lwW dA ao (f) h σ' o b i sG sR sL sX sE sY sF sN sT sP sI) rfl rfl
  refine lv_icmp_eq (pc := 439) (tgt := 469) hx hb dW_439 (by decide) (fun _ => ?_) (fun hne => absurd rfl hne)
  exact kk b i (f) H locs ls (lv_sub hl [0, 1, 2, 3, 4] rfl) hW
set_option maxHeartbeats 4000000 in
set_option maxRecDepth 100000 in
theorem lawW_8 (C : CxC "LineAssemblerLaw" p s m args meth c code 7 ret D dA (zz o) A) (hX : va_X bs L xs s s.heap) (hbl : bs < s.heap.size) (hbA : ¬ A bs) (hi1 : vp_in (x4 + 1) L) (hi2 : vp_in (x4 + 2) L) (hi3 : vp_in (x4 + 3) L) (N : Nat) {r : Int32} (hC : C_Asm_before N (xs (x4 + 1).toNatClampNeg) sG sR sL sX sE sY sF sN sT sP sI = some r) (hM : M_before N (xs (x4 + 1).toNatClampNeg) σ = some (r, σ')) (hc : cells + 0 ≤ 601024) (hs : slots + 0 ≤ 7293034) (hW : WdC D A s (lwW dA ao f h σ o b i sG sR sL sX sE sY sF sN sT sP sI) H locs) (hl : lv_has ls 7 [(0, .ref bs), (1, .ref (o 144)), (2, .ref (h 0)), (3, .ref ao), (4, .int x4)]) (kk : ∀ (b' i' : Nat → Nat) (f' : Nat → Int64) (H1 : Heap) (locs1 : List Loc) (ls1 : Array Slot), lv_has ls1 7 [(0, .ref bs), (1, .ref (o 144)), (2, .ref (h 0)), (3, .ref ao), (4, .int x4)] → WdC D A s (lwW dA ao f' h σ' o b' i' sG sR sL sX sE sY sF sN sT sP sI) H1 locs1 → W p l e room_1 s m args below meth c H1 locs1 (cells + 0) (slots + 0) Q (F0 m 469 ls1 [])) : W p l e room_1 s m args below meth c H locs cells slots Q (F0 m 444 ls []) := by
  have hx := C.1.1
  have hb := C.1.2.1
  have hown := C.1.2.2.2.2.1
  have hT := C.1.2.2.2.2.2.1
  refine lv_aload_n (pc := 444) hx hb dW_444 rfl (lv_at hl 1 rfl) ?_
  refine lv_aload_n (pc := 445) hx hb dW_445 rfl (lv_at hl 0 rfl) ?_
  refine lv_iload (pc := 446) hx hb dW_446 (lv_at hl 4 rfl) ?_
  refine lv_iconst (pc := 448) (v := 1) hx hb dW_448 (by decide) ?_
  refine lv_iadd (pc := 449) hx hb dW_449 ?_
  refine va_sld (pc := 450) hx hb hX hbl hbA hW.2.2 hi1 dW_450 ?_
  refine x_callQ (pc := 451) (n' := 54) (ov := some (.int r)) C hW (kC_Asm_before l D dA o b i N (xs (x4 + 1).toNatClampNeg) sG sR sL sX sE sY sF sN sT sP sI hC) [2, 3, 4, 5, 6, 7, 8, 9, 10, 11, 12, 13, 14, 15, 16, 17, 18, 19, 20, 21, 22, 23, 24, 25, 26, 27, 28, 29, 30, 31, 32, 33, 34, 35, 36, 37, 38, 39, 40, 41, 42, 43, 44, 45, 46, 47, 48, 49, 50, 51, 52, 53, 0, 1] rfl (by decide +kernel) rfl (ci := 10) rfl (q0 := 13) rfl gL_72 ⟨rfl, by decide, by decide, by decide +kernel⟩ ⟨Nat.le_of_ble_eq_true rfl, Nat.le_of_ble_eq_true rfl⟩ ⟨show _ ≤ 601024 by omega, show _ ≤ 7293034 by omega⟩ (As := [.int (xs (x4 + 1).toNatClampNeg)]) (n := 1) rfl hl.1 rfl (Nat.le_of_ble_eq_true rfl) dW_451 ?_
  refine lv_aload_n (pc := 454) hx hb dW_454 rfl (lv_at hl 2 rfl) ?_
  refine lv_aload_n (pc := 455) hx hb dW_455 rfl (lv_at hl 0 rfl) ?_
  refine lv_iload (pc := 456) hx hb dW_456 (lv_at hl 4 rfl) ?_
  refine lv_iconst (pc := 458) (v := 1) hx hb dW_458 (by decide) ?_
  refine lv_iadd (pc := 459) hx hb dW_459 ?_
  refine va_sld (pc := 460) hx hb hX hbl hbA hW.2.2 hi1 dW_460 ?_
  refine x_callC (pc := 461) (n' := 54) C hW ((kM_before l D dA h N (xs (x4 + 1).toNatClampNeg) σ hM).up (f := _) (lo := _) rfl) [1, 0, 2, 3, 4, 5, 6, 7, 8, 9, 10, 11, 12, 13, 14, 15, 16, 17, 18, 19, 20, 21, 22, 23, 24, 25, 26, 27, 28, 29, 30, 31, 32, 33, 34, 35, 36, 37, 38, 39, 40, 41, 42, 43, 44, 45, 46, 47, 48, 49, 50, 51, 52, 53] rfl (by decide +kernel) rfl (ci := 0) rfl (q0 := 1) rfl gL_75 ⟨rfl, by decide, by decide, by decide +kernel⟩ ⟨Nat.le_of_ble_eq_true rfl, Nat.le_of_ble_eq_true rfl⟩ ⟨show _ ≤ 601024 by omega, show _ ≤ 7293034 by omega⟩ (As := [.int (xs (x4 + 1).toNatClampNeg)]) (n := 1) rfl hl.1 rfl (Nat.le_of_ble_eq_true rfl) dW_461 (fun Wc' ov H locs hPo hWn => ?_)
  obtain ⟨rfl, rfl⟩ := hPo
  have hW := hWn (lwW dA ao (f) h σ' o b i sG sR sL sX sE sY sF sN sT sP sI) rfl rfl
  refine lv_icmp_eq (pc := 464) (tgt := 469) hx hb dW_464 (by decide) (fun _ => ?_) (fun hne => absurd rfl hne)
  exact kk b i (f) H locs ls (lv_sub hl [0, 1, 2, 3, 4] rfl) hW
set_option maxHeartbeats 4000000 in
set_option maxRecDepth 100000 in
theorem lawW_3r (C : CxC "LineAssemblerLaw" p s m args meth c code 7 ret D dA (zz o) A) (hX : va_X bs L xs s s.heap) (hbl : bs < s.heap.size) (hbA : ¬ A bs) (hi1 : vp_in (x4 + 1) L) (hi2 : vp_in (x4 + 2) L) (hi3 : vp_in (x4 + 3) L) (N : Nat) {r : Int32} (hC : C_Asm_size (xs (x4 + 1).toNatClampNeg) sG sR sL sX sE sY sF sN sT sP sI = some r) (hM : M_size N (xs (x4 + 1).toNatClampNeg) σ = some (r, σ')) (ht : M_thrown σ' = some 0) (hc : cells + 1 ≤ 601024) (hs : slots + 6 ≤ 7293034) (hW : WdC D A s (lwW dA ao f h σ o b i sG sR sL sX sE sY sF sN sT sP sI) H locs) (hl : lv_has ls 7 [(0, .ref bs), (1, .ref (o 144)), (2, .ref (h 0)), (3, .ref ao), (4, .int x4)]) (kk : ∀ (b' i' : Nat → Nat) (f' : Nat → Int64) (H1 : Heap) (locs1 : List Loc) (ls1 : Array Slot), lv_has ls1 7 [(0, .ref bs), (1, .ref (o 144)), (2, .ref (h 0)), (3, .ref ao), (4, .int x4)] → WdC D A s (lwW dA ao f' h σ' o b' i' sG sR sL sX sE sY sF sN sT sP sI) H1 locs1 → W p l e room_1 s m args below meth c H1 locs1 (cells + 1) (slots + 6) Q (F0 m 469 ls1 [])) : W p l e room_1 s m args below meth c H locs cells slots Q (F0 m 183 ls []) := by
  have hx := C.1.1
  have hb := C.1.2.1
  have hown := C.1.2.2.2.2.1
  have hT := C.1.2.2.2.2.2.1
  refine lv_aload_n (pc := 183) hx hb dW_183 rfl (lv_at hl 1 rfl) ?_
  refine lv_aload_n (pc := 184) hx hb dW_184 rfl (lv_at hl 0 rfl) ?_
  refine lv_iload (pc := 185) hx hb dW_185 (lv_at hl 4 rfl) ?_
  refine lv_iconst (pc := 187) (v := 1) hx hb dW_187 (by decide) ?_
  refine lv_iadd (pc := 188) hx hb dW_188 ?_
  refine va_sld (pc := 189) hx hb hX hbl hbA hW.2.2 hi1 dW_189 ?_
  refine lv_aload_n (pc := 190) hx hb dW_190 rfl (lv_at hl 3 rfl) ?_
  refine x_callTW (pc := 191) (n' := 54) C hW (kL_size_r l D dA o b i (xs (x4 + 1).toNatClampNeg) sG sR sL sX sE sY sF sN sT sP sI ao f hC) [0, 2, 3, 4, 5, 6, 7, 8, 9, 10, 11, 12, 13, 14, 15, 16, 17, 18, 19, 20, 21, 22, 23, 24, 25, 26, 27, 28, 29, 30, 31, 32, 33, 34, 35, 36, 37, 38, 39, 40, 41, 42, 43, 44, 45, 46, 47, 48, 49, 50, 51, 52, 53, 1] rfl (by decide +kernel) rfl qc_1407 qc_1405 qc_1406 qc_0 ⟨by decide, by decide, by decide +kernel⟩ ⟨Nat.le_of_ble_eq_true rfl, Nat.le_of_ble_eq_true rfl⟩ ⟨show _ ≤ 601024 by omega, show _ ≤ 7293034 by omega⟩ (As := [.ref (o 144), .int (xs (x4 + 1).toNatClampNeg), .ref ao]) (n := 3) rfl hl.1 rfl (Nat.le_of_ble_eq_true rfl) dW_191 (fun Wc' ov H locs hPo hWn => ?_)
  obtain ⟨rfl, rfl⟩ := hPo
  have hW := hWn (lwW dA ao (upO f r.toInt64) h σ o b i sG sR sL sX sE sY sF sN sT sP sI) rfl rfl
  refine lv_istore (pc := 194) (nL := 7) (lv' := [(5, .int 0), (0, .ref bs), (1, .ref (o 144)), (2, .ref (h 0)), (3, .ref ao), (4, .int x4)]) hx hb dW_194 hl (by decide) rfl (fun ls hl => ?_)
  refine lv_aload_n (pc := 196) hx hb dW_196 rfl (lv_at hl 3 rfl) ?_
  refine lv_aload_n (pc := 197) hx hb dW_197 rfl (lv_at hl 1 rfl) ?_
  refine lv_iload (pc := 198) hx hb dW_198 (lv_at hl 5 rfl) ?_
  refine lv_iconst (pc := 200) (v := 1) hx hb dW_200 (by decide) ?_
  refine lv_iadd (pc := 201) hx hb dW_201 ?_
  refine va_sld (pc := 202) hx hb hX hbl hbA hW.2.2 hi1 dW_202 ?_
  refine x_callC (pc := 203) (n' := 54) C hW ((kM_size l D dA h N (xs (x4 + 1).toNatClampNeg) σ hM).up (f := _) (lo := _) rfl) [1, 0, 2, 3, 4, 5, 6, 7, 8, 9, 10, 11, 12, 13, 14, 15, 16, 17, 18, 19, 20, 21, 22, 23, 24, 25, 26, 27, 28, 29, 30, 31, 32, 33, 34, 35, 36, 37, 38, 39, 40, 41, 42, 43, 44, 45, 46, 47, 48, 49, 50, 51, 52, 53] rfl (by decide +kernel) rfl (ci := 0) rfl (q0 := 1) rfl gL_54 ⟨rfl, by decide, by decide, by decide +kernel⟩ ⟨Nat.le_of_ble_eq_true rfl, Nat.le_of_ble_eq_true rfl⟩ ⟨show _ ≤ 601024 by omega, show _ ≤ 7293034 by omega⟩ (As := [.int (xs (x4 + 1).toNatClampNeg)]) (n := 1) rfl hl.1 rfl (Nat.le_of_ble_eq_true rfl) dW_203 (fun Wc' ov H locs hPo hWn => ?_)
  obtain ⟨rfl, rfl⟩ := hPo
  have hW := hWn (lwW dA ao (upO f r.toInt64) h σ' o b i sG sR sL sX sE sY sF sN sT sP sI) rfl rfl
  refine lv_istore (pc := 206) (nL := 7) (lv' := [(6, .int r), (5, .int 0), (0, .ref bs), (1, .ref (o 144)), (2, .ref (h 0)), (3, .ref ao), (4, .int x4)]) hx hb dW_206 hl (by decide) rfl (fun ls hl => ?_)
  refine lv_aload_n (pc := 208) hx hb dW_208 rfl (lv_at hl 4 rfl) ?_
  refine x_callQ (pc := 209) (n' := 54) (ov := some (.int 0)) C hW ((kM_thrown l D dA h σ' ht).up (f := _) (lo := _) rfl) [1, 0, 2, 3, 4, 5, 6, 7, 8, 9, 10, 11, 12, 13, 14, 15, 16, 17, 18, 19, 20, 21, 22, 23, 24, 25, 26, 27, 28, 29, 30, 31, 32, 33, 34, 35, 36, 37, 38, 39, 40, 41, 42, 43, 44, 45, 46, 47, 48, 49, 50, 51, 52, 53] rfl (by decide +kernel) rfl (ci := 0) rfl (q0 := 1) rfl gL_55 ⟨rfl, by decide, by decide, by decide +kernel⟩ ⟨Nat.le_of_ble_eq_true rfl, Nat.le_of_ble_eq_true rfl⟩ ⟨show _ ≤ 601024 by omega, show _ ≤ 7293034 by omega⟩ (As := []) (n := 0) rfl hl.1 rfl (Nat.le_of_ble_eq_true rfl) dW_209 ?_
  refine lv_iload (pc := 212) hx hb dW_212 (lv_at hl 1 rfl) ?_
  refine lv_icmp_eq (pc := 214) (tgt := 219) hx hb dW_214 (by decide) (fun _ => ?_) (fun hne => absurd rfl hne)
  refine lv_iload (pc := 219) hx hb dW_219 (lv_at hl 1 rfl) ?_
  refine lv_if_ne (pc := 221) (tgt := 236) hx hb dW_221 (by decide) (fun hne => absurd rfl hne) (fun _ => ?_)
  refine lv_aload_n (pc := 224) hx hb dW_224 rfl (lv_at hl 5 rfl) ?_
  refine lv_iconst (pc := 225) (v := 0) hx hb dW_225 (by decide) ?_
  refine va_lald (pc := 226) hx hb C.2.1 hW.1 0 0 rfl rfl (inB_in (show inB 0 1 = true by decide)) dW_226 ?_
  refine lv_iload (pc := 227) hx hb dW_227 (lv_at hl 0 rfl) ?_
  refine lv_i2l (pc := 229) (v := r.toInt64) hx hb dW_229 rfl ?_
  refine W.lcmp (pc := 230) hx hb dW_230 ?_
  refine lv_if_eq (pc := 231) (tgt := 236) hx hb dW_231 (by decide) (fun _ => ?_) (fun hne => absurd (by rw [upO0]; exact lg0 _) hne)
  refine lv_goto (pc := 236) (tgt := 469) hx hb dW_236 (by decide) ?_
  exact kk b i (upO f r.toInt64) H locs ls (lv_sub hl [2, 3, 4, 5, 6] rfl) hW
set_option maxHeartbeats 4000000 in
set_option maxRecDepth 100000 in
theorem lawW_3t1 (C : CxC "LineAssemblerLaw" p s m args meth c code 7 ret D dA (zz o) A) (hX : va_X bs L xs s s.heap) (hbl : bs < s.heap.size) (hbA : ¬ A bs) (hi1 : vp_in (x4 + 1) L) (hi2 : vp_in (x4 + 2) L) (hi3 : vp_in (x4 + 3) L) (N : Nat) {r2 : Int32} (htr : l.stackTraces = false) (hC : T_Asm_size (xs (x4 + 1).toNatClampNeg) sG sR sL sX sE sY sF sN sT sP sI = some 1) (hM : M_size N (xs (x4 + 1).toNatClampNeg) σ = some (r2, σ')) (ht : M_thrown σ' = some 1) (hc : cells + 1 ≤ 601024) (hs : slots + 6 ≤ 7293034) (hW : WdC D A s (lwW dA ao f h σ o b i sG sR sL sX sE sY sF sN sT sP sI) H locs) (hl : lv_has ls 7 [(0, .ref bs), (1, .ref (o 144)), (2, .ref (h 0)), (3, .ref ao), (4, .int x4)]) (kk : ∀ (b' i' : Nat → Nat) (f' : Nat → Int64) (H1 : Heap) (locs1 : List Loc) (ls1 : Array Slot), lv_has ls1 7 [(0, .ref bs), (1, .ref (o 144)), (2, .ref (h 0)), (3, .ref ao), (4, .int x4)] → WdC D A s (lwW dA ao f' h σ' o b' i' sG sR sL sX sE sY sF sN sT sP sI) H1 locs1 → W p l e room_1 s m args below meth c H1 locs1 (cells + 1) (slots + 6) Q (F0 m 469 ls1 [])) : W p l e room_1 s m args below meth c H locs cells slots Q (F0 m 183 ls []) := by
  have hx := C.1.1
  have hb := C.1.2.1
  have hown := C.1.2.2.2.2.1
  have hT := C.1.2.2.2.2.2.1
  refine lv_aload_n (pc := 183) hx hb dW_183 rfl (lv_at hl 1 rfl) ?_
  refine lv_aload_n (pc := 184) hx hb dW_184 rfl (lv_at hl 0 rfl) ?_
  refine lv_iload (pc := 185) hx hb dW_185 (lv_at hl 4 rfl) ?_
  refine lv_iconst (pc := 187) (v := 1) hx hb dW_187 (by decide) ?_
  refine lv_iadd (pc := 188) hx hb dW_188 ?_
  refine va_sld (pc := 189) hx hb hX hbl hbA hW.2.2 hi1 dW_189 ?_
  refine lv_aload_n (pc := 190) hx hb dW_190 rfl (lv_at hl 3 rfl) ?_
  refine x_callTW (pc := 191) (n' := 54) C hW (kL_size_t1 l D dA o b i (xs (x4 + 1).toNatClampNeg) sG sR sL sX sE sY sF sN sT sP sI ao f htr hC) [0, 2, 3, 4, 5, 6, 7, 8, 9, 10, 11, 12, 13, 14, 15, 16, 17, 18, 19, 20, 21, 22, 23, 24, 25, 26, 27, 28, 29, 30, 31, 32, 33, 34, 35, 36, 37, 38, 39, 40, 41, 42, 43, 44, 45, 46, 47, 48, 49, 50, 51, 52, 53, 1] rfl (by decide +kernel) rfl qc_1407 qc_1405 qc_1406 qc_0 ⟨by decide, by decide, by decide +kernel⟩ ⟨Nat.le_of_ble_eq_true rfl, Nat.le_of_ble_eq_true rfl⟩ ⟨show _ ≤ 601024 by omega, show _ ≤ 7293034 by omega⟩ (As := [.ref (o 144), .int (xs (x4 + 1).toNatClampNeg), .ref ao]) (n := 3) rfl hl.1 rfl (Nat.le_of_ble_eq_true rfl) dW_191 (fun Wc' ov H locs hPo hWn => ?_)
  obtain ⟨rfl, rfl⟩ := hPo
  have hW := hWn (lwW dA ao (f) h σ o b i sG sR sL sX sE sY sF sN sT sP sI) rfl rfl
  refine lv_istore (pc := 194) (nL := 7) (lv' := [(5, .int 1), (0, .ref bs), (1, .ref (o 144)), (2, .ref (h 0)), (3, .ref ao), (4, .int x4)]) hx hb dW_194 hl (by decide) rfl (fun ls hl => ?_)
  refine lv_aload_n (pc := 196) hx hb dW_196 rfl (lv_at hl 3 rfl) ?_
  refine lv_aload_n (pc := 197) hx hb dW_197 rfl (lv_at hl 1 rfl) ?_
  refine lv_iload (pc := 198) hx hb dW_198 (lv_at hl 5 rfl) ?_
  refine lv_iconst (pc := 200) (v := 1) hx hb dW_200 (by decide) ?_
  refine lv_iadd (pc := 201) hx hb dW_201 ?_
  refine va_sld (pc := 202) hx hb hX hbl hbA hW.2.2 hi1 dW_202 ?_
  refine x_callC (pc := 203) (n' := 54) C hW ((kM_size l D dA h N (xs (x4 + 1).toNatClampNeg) σ hM).up (f := _) (lo := _) rfl) [1, 0, 2, 3, 4, 5, 6, 7, 8, 9, 10, 11, 12, 13, 14, 15, 16, 17, 18, 19, 20, 21, 22, 23, 24, 25, 26, 27, 28, 29, 30, 31, 32, 33, 34, 35, 36, 37, 38, 39, 40, 41, 42, 43, 44, 45, 46, 47, 48, 49, 50, 51, 52, 53] rfl (by decide +kernel) rfl (ci := 0) rfl (q0 := 1) rfl gL_54 ⟨rfl, by decide, by decide, by decide +kernel⟩ ⟨Nat.le_of_ble_eq_true rfl, Nat.le_of_ble_eq_true rfl⟩ ⟨show _ ≤ 601024 by omega, show _ ≤ 7293034 by omega⟩ (As := [.int (xs (x4 + 1).toNatClampNeg)]) (n := 1) rfl hl.1 rfl (Nat.le_of_ble_eq_true rfl) dW_203 (fun Wc' ov H locs hPo hWn => ?_)
  obtain ⟨rfl, rfl⟩ := hPo
  have hW := hWn (lwW dA ao (f) h σ' o b i sG sR sL sX sE sY sF sN sT sP sI) rfl rfl
  refine lv_istore (pc := 206) (nL := 7) (lv' := [(6, .int r2), (5, .int 1), (0, .ref bs), (1, .ref (o 144)), (2, .ref (h 0)), (3, .ref ao), (4, .int x4)]) hx hb dW_206 hl (by decide) rfl (fun ls hl => ?_)
  refine lv_aload_n (pc := 208) hx hb dW_208 rfl (lv_at hl 4 rfl) ?_
  refine x_callQ (pc := 209) (n' := 54) (ov := some (.int 1)) C hW ((kM_thrown l D dA h σ' ht).up (f := _) (lo := _) rfl) [1, 0, 2, 3, 4, 5, 6, 7, 8, 9, 10, 11, 12, 13, 14, 15, 16, 17, 18, 19, 20, 21, 22, 23, 24, 25, 26, 27, 28, 29, 30, 31, 32, 33, 34, 35, 36, 37, 38, 39, 40, 41, 42, 43, 44, 45, 46, 47, 48, 49, 50, 51, 52, 53] rfl (by decide +kernel) rfl (ci := 0) rfl (q0 := 1) rfl gL_55 ⟨rfl, by decide, by decide, by decide +kernel⟩ ⟨Nat.le_of_ble_eq_true rfl, Nat.le_of_ble_eq_true rfl⟩ ⟨show _ ≤ 601024 by omega, show _ ≤ 7293034 by omega⟩ (As := []) (n := 0) rfl hl.1 rfl (Nat.le_of_ble_eq_true rfl) dW_209 ?_
  refine lv_iload (pc := 212) hx hb dW_212 (lv_at hl 1 rfl) ?_
  refine lv_icmp_eq (pc := 214) (tgt := 219) hx hb dW_214 (by decide) (fun _ => ?_) (fun hne => absurd rfl hne)
  refine lv_iload (pc := 219) hx hb dW_219 (lv_at hl 1 rfl) ?_
  refine lv_if_ne (pc := 221) (tgt := 236) hx hb dW_221 (by decide) (fun _ => ?_) (fun hne => absurd hne (by decide))
  refine lv_goto (pc := 236) (tgt := 469) hx hb dW_236 (by decide) ?_
  exact kk b i (f) H locs ls (lv_sub hl [2, 3, 4, 5, 6] rfl) hW
set_option maxHeartbeats 4000000 in
set_option maxRecDepth 100000 in
theorem lawW_3t2 (C : CxC "LineAssemblerLaw" p s m args meth c code 7 ret D dA (zz o) A) (hX : va_X bs L xs s s.heap) (hbl : bs < s.heap.size) (hbA : ¬ A bs) (hi1 : vp_in (x4 + 1) L) (hi2 : vp_in (x4 + 2) L) (hi3 : vp_in (x4 + 3) L) (N : Nat) {r2 : Int32} (htr : l.stackTraces = false) (hC : T_Asm_size (xs (x4 + 1).toNatClampNeg) sG sR sL sX sE sY sF sN sT sP sI = some 2) (hM : M_size N (xs (x4 + 1).toNatClampNeg) σ = some (r2, σ')) (ht : M_thrown σ' = some 2) (hc : cells + 1 ≤ 601024) (hs : slots + 6 ≤ 7293034) (hW : WdC D A s (lwW dA ao f h σ o b i sG sR sL sX sE sY sF sN sT sP sI) H locs) (hl : lv_has ls 7 [(0, .ref bs), (1, .ref (o 144)), (2, .ref (h 0)), (3, .ref ao), (4, .int x4)]) (kk : ∀ (b' i' : Nat → Nat) (f' : Nat → Int64) (H1 : Heap) (locs1 : List Loc) (ls1 : Array Slot), lv_has ls1 7 [(0, .ref bs), (1, .ref (o 144)), (2, .ref (h 0)), (3, .ref ao), (4, .int x4)] → WdC D A s (lwW dA ao f' h σ' o b' i' sG sR sL sX sE sY sF sN sT sP sI) H1 locs1 → W p l e room_1 s m args below meth c H1 locs1 (cells + 1) (slots + 6) Q (F0 m 469 ls1 [])) : W p l e room_1 s m args below meth c H locs cells slots Q (F0 m 183 ls []) := by
  have hx := C.1.1
  have hb := C.1.2.1
  have hown := C.1.2.2.2.2.1
  have hT := C.1.2.2.2.2.2.1
  refine lv_aload_n (pc := 183) hx hb dW_183 rfl (lv_at hl 1 rfl) ?_
  refine lv_aload_n (pc := 184) hx hb dW_184 rfl (lv_at hl 0 rfl) ?_
  refine lv_iload (pc := 185) hx hb dW_185 (lv_at hl 4 rfl) ?_
  refine lv_iconst (pc := 187) (v := 1) hx hb dW_187 (by decide) ?_
  refine lv_iadd (pc := 188) hx hb dW_188 ?_
  refine va_sld (pc := 189) hx hb hX hbl hbA hW.2.2 hi1 dW_189 ?_
  refine lv_aload_n (pc := 190) hx hb dW_190 rfl (lv_at hl 3 rfl) ?_
  refine x_callTW (pc := 191) (n' := 54) C hW (kL_size_t2 l D dA o b i (xs (x4 + 1).toNatClampNeg) sG sR sL sX sE sY sF sN sT sP sI ao f htr hC) [0, 2, 3, 4, 5, 6, 7, 8, 9, 10, 11, 12, 13, 14, 15, 16, 17, 18, 19, 20, 21, 22, 23, 24, 25, 26, 27, 28, 29, 30, 31, 32, 33, 34, 35, 36, 37, 38, 39, 40, 41, 42, 43, 44, 45, 46, 47, 48, 49, 50, 51, 52, 53, 1] rfl (by decide +kernel) rfl qc_1407 qc_1405 qc_1406 qc_0 ⟨by decide, by decide, by decide +kernel⟩ ⟨Nat.le_of_ble_eq_true rfl, Nat.le_of_ble_eq_true rfl⟩ ⟨show _ ≤ 601024 by omega, show _ ≤ 7293034 by omega⟩ (As := [.ref (o 144), .int (xs (x4 + 1).toNatClampNeg), .ref ao]) (n := 3) rfl hl.1 rfl (Nat.le_of_ble_eq_true rfl) dW_191 (fun Wc' ov H locs hPo hWn => ?_)
  obtain ⟨rfl, rfl⟩ := hPo
  have hW := hWn (lwW dA ao (f) h σ o b i sG sR sL sX sE sY sF sN sT sP sI) rfl rfl
  refine lv_istore (pc := 194) (nL := 7) (lv' := [(5, .int 2), (0, .ref bs), (1, .ref (o 144)), (2, .ref (h 0)), (3, .ref ao), (4, .int x4)]) hx hb dW_194 hl (by decide) rfl (fun ls hl => ?_)
  refine lv_aload_n (pc := 196) hx hb dW_196 rfl (lv_at hl 3 rfl) ?_
  refine lv_aload_n (pc := 197) hx hb dW_197 rfl (lv_at hl 1 rfl) ?_
  refine lv_iload (pc := 198) hx hb dW_198 (lv_at hl 5 rfl) ?_
  refine lv_iconst (pc := 200) (v := 1) hx hb dW_200 (by decide) ?_
  refine lv_iadd (pc := 201) hx hb dW_201 ?_
  refine va_sld (pc := 202) hx hb hX hbl hbA hW.2.2 hi1 dW_202 ?_
  refine x_callC (pc := 203) (n' := 54) C hW ((kM_size l D dA h N (xs (x4 + 1).toNatClampNeg) σ hM).up (f := _) (lo := _) rfl) [1, 0, 2, 3, 4, 5, 6, 7, 8, 9, 10, 11, 12, 13, 14, 15, 16, 17, 18, 19, 20, 21, 22, 23, 24, 25, 26, 27, 28, 29, 30, 31, 32, 33, 34, 35, 36, 37, 38, 39, 40, 41, 42, 43, 44, 45, 46, 47, 48, 49, 50, 51, 52, 53] rfl (by decide +kernel) rfl (ci := 0) rfl (q0 := 1) rfl gL_54 ⟨rfl, by decide, by decide, by decide +kernel⟩ ⟨Nat.le_of_ble_eq_true rfl, Nat.le_of_ble_eq_true rfl⟩ ⟨show _ ≤ 601024 by omega, show _ ≤ 7293034 by omega⟩ (As := [.int (xs (x4 + 1).toNatClampNeg)]) (n := 1) rfl hl.1 rfl (Nat.le_of_ble_eq_true rfl) dW_203 (fun Wc' ov H locs hPo hWn => ?_)
  obtain ⟨rfl, rfl⟩ := hPo
  have hW := hWn (lwW dA ao (f) h σ' o b i sG sR sL sX sE sY sF sN sT sP sI) rfl rfl
  refine lv_istore (pc := 206) (nL := 7) (lv' := [(6, .int r2), (5, .int 2), (0, .ref bs), (1, .ref (o 144)), (2, .ref (h 0)), (3, .ref ao), (4, .int x4)]) hx hb dW_206 hl (by decide) rfl (fun ls hl => ?_)
  refine lv_aload_n (pc := 208) hx hb dW_208 rfl (lv_at hl 4 rfl) ?_
  refine x_callQ (pc := 209) (n' := 54) (ov := some (.int 2)) C hW ((kM_thrown l D dA h σ' ht).up (f := _) (lo := _) rfl) [1, 0, 2, 3, 4, 5, 6, 7, 8, 9, 10, 11, 12, 13, 14, 15, 16, 17, 18, 19, 20, 21, 22, 23, 24, 25, 26, 27, 28, 29, 30, 31, 32, 33, 34, 35, 36, 37, 38, 39, 40, 41, 42, 43, 44, 45, 46, 47, 48, 49, 50, 51, 52, 53] rfl (by decide +kernel) rfl (ci := 0) rfl (q0 := 1) rfl gL_55 ⟨rfl, by decide, by decide, by decide +kernel⟩ ⟨Nat.le_of_ble_eq_true rfl, Nat.le_of_ble_eq_true rfl⟩ ⟨show _ ≤ 601024 by omega, show _ ≤ 7293034 by omega⟩ (As := []) (n := 0) rfl hl.1 rfl (Nat.le_of_ble_eq_true rfl) dW_209 ?_
  refine lv_iload (pc := 212) hx hb dW_212 (lv_at hl 1 rfl) ?_
  refine lv_icmp_eq (pc := 214) (tgt := 219) hx hb dW_214 (by decide) (fun _ => ?_) (fun hne => absurd rfl hne)
  refine lv_iload (pc := 219) hx hb dW_219 (lv_at hl 1 rfl) ?_
  refine lv_if_ne (pc := 221) (tgt := 236) hx hb dW_221 (by decide) (fun _ => ?_) (fun hne => absurd hne (by decide))
  refine lv_goto (pc := 236) (tgt := 469) hx hb dW_236 (by decide) ?_
  exact kk b i (f) H locs ls (lv_sub hl [2, 3, 4, 5, 6] rfl) hW
set_option maxHeartbeats 4000000 in
set_option maxRecDepth 100000 in
theorem lawW_4r (C : CxC "LineAssemblerLaw" p s m args meth c code 7 ret D dA (zz o) A) (hX : va_X bs L xs s s.heap) (hbl : bs < s.heap.size) (hbA : ¬ A bs) (hi1 : vp_in (x4 + 1) L) (hi2 : vp_in (x4 + 2) L) (hi3 : vp_in (x4 + 3) L) (N : Nat) {r : Int32} (hC : C_Asm_byteAt (xs (x4 + 1).toNatClampNeg) sG sR sL sX sE sY sF sN sT sP sI = some r) (hM : M_byteAt N (xs (x4 + 1).toNatClampNeg) σ = some (r, σ')) (ht : M_thrown σ' = some 0) (hc : cells + 1 ≤ 601024) (hs : slots + 6 ≤ 7293034) (hW : WdC D A s (lwW dA ao f h σ o b i sG sR sL sX sE sY sF sN sT sP sI) H locs) (hl : lv_has ls 7 [(0, .ref bs), (1, .ref (o 144)), (2, .ref (h 0)), (3, .ref ao), (4, .int x4)]) (kk : ∀ (b' i' : Nat → Nat) (f' : Nat → Int64) (H1 : Heap) (locs1 : List Loc) (ls1 : Array Slot), lv_has ls1 7 [(0, .ref bs), (1, .ref (o 144)), (2, .ref (h 0)), (3, .ref ao), (4, .int x4)] → WdC D A s (lwW dA ao f' h σ' o b' i' sG sR sL sX sE sY sF sN sT sP sI) H1 locs1 → W p l e room_1 s m args below meth c H1 locs1 (cells + 1) (slots + 6) Q (F0 m 469 ls1 [])) : W p l e room_1 s m args below meth c H locs cells slots Q (F0 m 239 ls []) := by
  have hx := C.1.1
  have hb := C.1.2.1
  have hown := C.1.2.2.2.2.1
  have hT := C.1.2.2.2.2.2.1
  refine lv_aload_n (pc := 239) hx hb dW_239 rfl (lv_at hl 1 rfl) ?_
  refine lv_aload_n (pc := 240) hx hb dW_240 rfl (lv_at hl 0 rfl) ?_
  refine lv_iload (pc := 241) hx hb dW_241 (lv_at hl 4 rfl) ?_
  refine lv_iconst (pc := 243) (v := 1) hx hb dW_243 (by decide) ?_
  refine lv_iadd (pc := 244) hx hb dW_244 ?_
  refine va_sld (pc := 245) hx hb hX hbl hbA hW.2.2 hi1 dW_245 ?_
  refine lv_aload_n (pc := 246) hx hb dW_246 rfl (lv_at hl 3 rfl) ?_
  refine x_callTW (pc := 247) (n' := 54) C hW (kL_byteAt_r l D dA o b i (xs (x4 + 1).toNatClampNeg) sG sR sL sX sE sY sF sN sT sP sI ao f hC) [0, 2, 3, 4, 5, 6, 7, 8, 9, 10, 11, 12, 13, 14, 15, 16, 17, 18, 19, 20, 21, 22, 23, 24, 25, 26, 27, 28, 29, 30, 31, 32, 33, 34, 35, 36, 37, 38, 39, 40, 41, 42, 43, 44, 45, 46, 47, 48, 49, 50, 51, 52, 53, 1] rfl (by decide +kernel) rfl qc_1435 qc_1433 qc_1434 qc_0 ⟨by decide, by decide, by decide +kernel⟩ ⟨Nat.le_of_ble_eq_true rfl, Nat.le_of_ble_eq_true rfl⟩ ⟨show _ ≤ 601024 by omega, show _ ≤ 7293034 by omega⟩ (As := [.ref (o 144), .int (xs (x4 + 1).toNatClampNeg), .ref ao]) (n := 3) rfl hl.1 rfl (Nat.le_of_ble_eq_true rfl) dW_247 (fun Wc' ov H locs hPo hWn => ?_)
  obtain ⟨rfl, rfl⟩ := hPo
  have hW := hWn (lwW dA ao (upO f r.toInt64) h σ o b i sG sR sL sX sE sY sF sN sT sP sI) rfl rfl
  refine lv_istore (pc := 250) (nL := 7) (lv' := [(5, .int 0), (0, .ref bs), (1, .ref (o 144)), (2, .ref (h 0)), (3, .ref ao), (4, .int x4)]) hx hb dW_250 hl (by decide) rfl (fun ls hl => ?_)
  refine lv_aload_n (pc := 252) hx hb dW_252 rfl (lv_at hl 3 rfl) ?_
  refine lv_aload_n (pc := 253) hx hb dW_253 rfl (lv_at hl 1 rfl) ?_
  refine lv_iload (pc := 254) hx hb dW_254 (lv_at hl 5 rfl) ?_
  refine lv_iconst (pc := 256) (v := 1) hx hb dW_256 (by decide) ?_
  refine lv_iadd (pc := 257) hx hb dW_257 ?_
  refine va_sld (pc := 258) hx hb hX hbl hbA hW.2.2 hi1 dW_258 ?_
  refine x_callC (pc := 259) (n' := 54) C hW ((kM_byteAt l D dA h N (xs (x4 + 1).toNatClampNeg) σ hM).up (f := _) (lo := _) rfl) [1, 0, 2, 3, 4, 5, 6, 7, 8, 9, 10, 11, 12, 13, 14, 15, 16, 17, 18, 19, 20, 21, 22, 23, 24, 25, 26, 27, 28, 29, 30, 31, 32, 33, 34, 35, 36, 37, 38, 39, 40, 41, 42, 43, 44, 45, 46, 47, 48, 49, 50, 51, 52, 53] rfl (by decide +kernel) rfl (ci := 0) rfl (q0 := 1) rfl gL_60 ⟨rfl, by decide, by decide, by decide +kernel⟩ ⟨Nat.le_of_ble_eq_true rfl, Nat.le_of_ble_eq_true rfl⟩ ⟨show _ ≤ 601024 by omega, show _ ≤ 7293034 by omega⟩ (As := [.int (xs (x4 + 1).toNatClampNeg)]) (n := 1) rfl hl.1 rfl (Nat.le_of_ble_eq_true rfl) dW_259 (fun Wc' ov H locs hPo hWn => ?_)
  obtain ⟨rfl, rfl⟩ := hPo
  have hW := hWn (lwW dA ao (upO f r.toInt64) h σ' o b i sG sR sL sX sE sY sF sN sT sP sI) rfl rfl
  refine lv_istore (pc := 262) (nL := 7) (lv' := [(6, .int r), (5, .int 0), (0, .ref bs), (1, .ref (o 144)), (2, .ref (h 0)), (3, .ref ao), (4, .int x4)]) hx hb dW_262 hl (by decide) rfl (fun ls hl => ?_)
  refine lv_aload_n (pc := 264) hx hb dW_264 rfl (lv_at hl 4 rfl) ?_
  refine x_callQ (pc := 265) (n' := 54) (ov := some (.int 0)) C hW ((kM_thrown l D dA h σ' ht).up (f := _) (lo := _) rfl) [1, 0, 2, 3, 4, 5, 6, 7, 8, 9, 10, 11, 12, 13, 14, 15, 16, 17, 18, 19, 20, 21, 22, 23, 24, 25, 26, 27, 28, 29, 30, 31, 32, 33, 34, 35, 36, 37, 38, 39, 40, 41, 42, 43, 44, 45, 46, 47, 48, 49, 50, 51, 52, 53] rfl (by decide +kernel) rfl (ci := 0) rfl (q0 := 1) rfl gL_55 ⟨rfl, by decide, by decide, by decide +kernel⟩ ⟨Nat.le_of_ble_eq_true rfl, Nat.le_of_ble_eq_true rfl⟩ ⟨show _ ≤ 601024 by omega, show _ ≤ 7293034 by omega⟩ (As := []) (n := 0) rfl hl.1 rfl (Nat.le_of_ble_eq_true rfl) dW_265 ?_
  refine lv_iload (pc := 268) hx hb dW_268 (lv_at hl 1 rfl) ?_
  refine lv_icmp_eq (pc := 270) (tgt := 275) hx hb dW_270 (by decide) (fun _ => ?_) (fun hne => absurd rfl hne)
  refine lv_iload (pc := 275) hx hb dW_275 (lv_at hl 1 rfl) ?_
  refine lv_if_ne (pc := 277) (tgt := 292) hx hb dW_277 (by decide) (fun hne => absurd rfl hne) (fun _ => ?_)
  refine lv_aload_n (pc := 280) hx hb dW_280 rfl (lv_at hl 5 rfl) ?_
  refine lv_iconst (pc := 281) (v := 0) hx hb dW_281 (by decide) ?_
  refine va_lald (pc := 282) hx hb C.2.1 hW.1 0 0 rfl rfl (inB_in (show inB 0 1 = true by decide)) dW_282 ?_
  refine lv_iload (pc := 283) hx hb dW_283 (lv_at hl 0 rfl) ?_
  refine lv_i2l (pc := 285) (v := r.toInt64) hx hb dW_285 rfl ?_
  refine W.lcmp (pc := 286) hx hb dW_286 ?_
  refine lv_if_eq (pc := 287) (tgt := 292) hx hb dW_287 (by decide) (fun _ => ?_) (fun hne => absurd (by rw [upO0]; exact lg0 _) hne)
  refine lv_goto (pc := 292) (tgt := 469) hx hb dW_292 (by decide) ?_
  exact kk b i (upO f r.toInt64) H locs ls (lv_sub hl [2, 3, 4, 5, 6] rfl) hW
set_option maxHeartbeats 4000000 in
set_option maxRecDepth 100000 in
theorem lawW_4t3 (C : CxC "LineAssemblerLaw" p s m args meth c code 7 ret D dA (zz o) A) (hX : va_X bs L xs s s.heap) (hbl : bs < s.heap.size) (hbA : ¬ A bs) (hi1 : vp_in (x4 + 1) L) (hi2 : vp_in (x4 + 2) L) (hi3 : vp_in (x4 + 3) L) (N : Nat) {r2 : Int32} (htr : l.stackTraces = false) (hC : T_Asm_byteAt (xs (x4 + 1).toNatClampNeg) sG sR sL sX sE sY sF sN sT sP sI = some 3) (hM : M_byteAt N (xs (x4 + 1).toNatClampNeg) σ = some (r2, σ')) (ht : M_thrown σ' = some 1) (hc : cells + 1 ≤ 601024) (hs : slots + 6 ≤ 7293034) (hW : WdC D A s (lwW dA ao f h σ o b i sG sR sL sX sE sY sF sN sT sP sI) H locs) (hl : lv_has ls 7 [(0, .ref bs), (1, .ref (o 144)), (2, .ref (h 0)), (3, .ref ao), (4, .int x4)]) (kk : ∀ (b' i' : Nat → Nat) (f' : Nat → Int64) (H1 : Heap) (locs1 : List Loc) (ls1 : Array Slot), lv_has ls1 7 [(0, .ref bs), (1, .ref (o 144)), (2, .ref (h 0)), (3, .ref ao), (4, .int x4)] → WdC D A s (lwW dA ao f' h σ' o b' i' sG sR sL sX sE sY sF sN sT sP sI) H1 locs1 → W p l e room_1 s m args below meth c H1 locs1 (cells + 1) (slots + 6) Q (F0 m 469 ls1 [])) : W p l e room_1 s m args below meth c H locs cells slots Q (F0 m 239 ls []) := by
  have hx := C.1.1
  have hb := C.1.2.1
  have hown := C.1.2.2.2.2.1
  have hT := C.1.2.2.2.2.2.1
  refine lv_aload_n (pc := 239) hx hb dW_239 rfl (lv_at hl 1 rfl) ?_
  refine lv_aload_n (pc := 240) hx hb dW_240 rfl (lv_at hl 0 rfl) ?_
  refine lv_iload (pc := 241) hx hb dW_241 (lv_at hl 4 rfl) ?_
  refine lv_iconst (pc := 243) (v := 1) hx hb dW_243 (by decide) ?_
  refine lv_iadd (pc := 244) hx hb dW_244 ?_
  refine va_sld (pc := 245) hx hb hX hbl hbA hW.2.2 hi1 dW_245 ?_
  refine lv_aload_n (pc := 246) hx hb dW_246 rfl (lv_at hl 3 rfl) ?_
  refine x_callTW (pc := 247) (n' := 54) C hW (kL_byteAt_t3 l D dA o b i (xs (x4 + 1).toNatClampNeg) sG sR sL sX sE sY sF sN sT sP sI ao f htr hC) [0, 2, 3, 4, 5, 6, 7, 8, 9, 10, 11, 12, 13, 14, 15, 16, 17, 18, 19, 20, 21, 22, 23, 24, 25, 26, 27, 28, 29, 30, 31, 32, 33, 34, 35, 36, 37, 38, 39, 40, 41, 42, 43, 44, 45, 46, 47, 48, 49, 50, 51, 52, 53, 1] rfl (by decide +kernel) rfl qc_1435 qc_1433 qc_1434 qc_0 ⟨by decide, by decide, by decide +kernel⟩ ⟨Nat.le_of_ble_eq_true rfl, Nat.le_of_ble_eq_true rfl⟩ ⟨show _ ≤ 601024 by omega, show _ ≤ 7293034 by omega⟩ (As := [.ref (o 144), .int (xs (x4 + 1).toNatClampNeg), .ref ao]) (n := 3) rfl hl.1 rfl (Nat.le_of_ble_eq_true rfl) dW_247 (fun Wc' ov H locs hPo hWn => ?_)
  obtain ⟨rfl, rfl⟩ := hPo
  have hW := hWn (lwW dA ao (f) h σ o b i sG sR sL sX sE sY sF sN sT sP sI) rfl rfl
  refine lv_istore (pc := 250) (nL := 7) (lv' := [(5, .int 1), (0, .ref bs), (1, .ref (o 144)), (2, .ref (h 0)), (3, .ref ao), (4, .int x4)]) hx hb dW_250 hl (by decide) rfl (fun ls hl => ?_)
  refine lv_aload_n (pc := 252) hx hb dW_252 rfl (lv_at hl 3 rfl) ?_
  refine lv_aload_n (pc := 253) hx hb dW_253 rfl (lv_at hl 1 rfl) ?_
  refine lv_iload (pc := 254) hx hb dW_254 (lv_at hl 5 rfl) ?_
  refine lv_iconst (pc := 256) (v := 1) hx hb dW_256 (by decide) ?_
  refine lv_iadd (pc := 257) hx hb dW_257 ?_
  refine va_sld (pc := 258) hx hb hX hbl hbA hW.2.2 hi1 dW_258 ?_
  refine x_callC (pc := 259) (n' := 54) C hW ((kM_byteAt l D dA h N (xs (x4 + 1).toNatClampNeg) σ hM).up (f := _) (lo := _) rfl) [1, 0, 2, 3, 4, 5, 6, 7, 8, 9, 10, 11, 12, 13, 14, 15, 16, 17, 18, 19, 20, 21, 22, 23, 24, 25, 26, 27, 28, 29, 30, 31, 32, 33, 34, 35, 36, 37, 38, 39, 40, 41, 42, 43, 44, 45, 46, 47, 48, 49, 50, 51, 52, 53] rfl (by decide +kernel) rfl (ci := 0) rfl (q0 := 1) rfl gL_60 ⟨rfl, by decide, by decide, by decide +kernel⟩ ⟨Nat.le_of_ble_eq_true rfl, Nat.le_of_ble_eq_true rfl⟩ ⟨show _ ≤ 601024 by omega, show _ ≤ 7293034 by omega⟩ (As := [.int (xs (x4 + 1).toNatClampNeg)]) (n := 1) rfl hl.1 rfl (Nat.le_of_ble_eq_true rfl) dW_259 (fun Wc' ov H locs hPo hWn => ?_)
  obtain ⟨rfl, rfl⟩ := hPo
  have hW := hWn (lwW dA ao (f) h σ' o b i sG sR sL sX sE sY sF sN sT sP sI) rfl rfl
  refine lv_istore (pc := 262) (nL := 7) (lv' := [(6, .int r2), (5, .int 1), (0, .ref bs), (1, .ref (o 144)), (2, .ref (h 0)), (3, .ref ao), (4, .int x4)]) hx hb dW_262 hl (by decide) rfl (fun ls hl => ?_)
  refine lv_aload_n (pc := 264) hx hb dW_264 rfl (lv_at hl 4 rfl) ?_
  refine x_callQ (pc := 265) (n' := 54) (ov := some (.int 1)) C hW ((kM_thrown l D dA h σ' ht).up (f := _) (lo := _) rfl) [1, 0, 2, 3, 4, 5, 6, 7, 8, 9, 10, 11, 12, 13, 14, 15, 16, 17, 18, 19, 20, 21, 22, 23, 24, 25, 26, 27, 28, 29, 30, 31, 32, 33, 34, 35, 36, 37, 38, 39, 40, 41, 42, 43, 44, 45, 46, 47, 48, 49, 50, 51, 52, 53] rfl (by decide +kernel) rfl (ci := 0) rfl (q0 := 1) rfl gL_55 ⟨rfl, by decide, by decide, by decide +kernel⟩ ⟨Nat.le_of_ble_eq_true rfl, Nat.le_of_ble_eq_true rfl⟩ ⟨show _ ≤ 601024 by omega, show _ ≤ 7293034 by omega⟩ (As := []) (n := 0) rfl hl.1 rfl (Nat.le_of_ble_eq_true rfl) dW_265 ?_
  refine lv_iload (pc := 268) hx hb dW_268 (lv_at hl 1 rfl) ?_
  refine lv_icmp_eq (pc := 270) (tgt := 275) hx hb dW_270 (by decide) (fun _ => ?_) (fun hne => absurd rfl hne)
  refine lv_iload (pc := 275) hx hb dW_275 (lv_at hl 1 rfl) ?_
  refine lv_if_ne (pc := 277) (tgt := 292) hx hb dW_277 (by decide) (fun _ => ?_) (fun hne => absurd hne (by decide))
  refine lv_goto (pc := 292) (tgt := 469) hx hb dW_292 (by decide) ?_
  exact kk b i (f) H locs ls (lv_sub hl [2, 3, 4, 5, 6] rfl) hW
set_option maxHeartbeats 4000000 in
set_option maxRecDepth 100000 in
theorem lawW_5r (C : CxC "LineAssemblerLaw" p s m args meth c code 7 ret D dA (zz o) A) (hX : va_X bs L xs s s.heap) (hbl : bs < s.heap.size) (hbA : ¬ A bs) (hi1 : vp_in (x4 + 1) L) (hi2 : vp_in (x4 + 2) L) (hi3 : vp_in (x4 + 3) L) (N : Nat) {r : Int32} (hC : C_Asm_address (xs (x4 + 1).toNatClampNeg) sG sR sL sX sE sY sF sN sT sP sI = some r) (hM : M_address N (xs (x4 + 1).toNatClampNeg) σ = some (r, σ')) (ht : M_thrown σ' = some 0) (hc : cells + 1 ≤ 601024) (hs : slots + 6 ≤ 7293034) (hW : WdC D A s (lwW dA ao f h σ o b i sG sR sL sX sE sY sF sN sT sP sI) H locs) (hl : lv_has ls 7 [(0, .ref bs), (1, .ref (o 144)), (2, .ref (h 0)), (3, .ref ao), (4, .int x4)]) (kk : ∀ (b' i' : Nat → Nat) (f' : Nat → Int64) (H1 : Heap) (locs1 : List Loc) (ls1 : Array Slot), lv_has ls1 7 [(0, .ref bs), (1, .ref (o 144)), (2, .ref (h 0)), (3, .ref ao), (4, .int x4)] → WdC D A s (lwW dA ao f' h σ' o b' i' sG sR sL sX sE sY sF sN sT sP sI) H1 locs1 → W p l e room_1 s m args below meth c H1 locs1 (cells + 1) (slots + 6) Q (F0 m 469 ls1 [])) : W p l e room_1 s m args below meth c H locs cells slots Q (F0 m 295 ls []) := by
  have hx := C.1.1
  have hb := C.1.2.1
  have hown := C.1.2.2.2.2.1
  have hT := C.1.2.2.2.2.2.1
  refine lv_aload_n (pc := 295) hx hb dW_295 rfl (lv_at hl 1 rfl) ?_
  refine lv_aload_n (pc := 296) hx hb dW_296 rfl (lv_at hl 0 rfl) ?_
  refine lv_iload (pc := 297) hx hb dW_297 (lv_at hl 4 rfl) ?_
  refine lv_iconst (pc := 299) (v := 1) hx hb dW_299 (by decide) ?_
  refine lv_iadd (pc := 300) hx hb dW_300 ?_
  refine va_sld (pc := 301) hx hb hX hbl hbA hW.2.2 hi1 dW_301 ?_
  refine lv_aload_n (pc := 302) hx hb dW_302 rfl (lv_at hl 3 rfl) ?_
  refine x_callTW (pc := 303) (n' := 54) C hW (kL_address_r l D dA o b i (xs (x4 + 1).toNatClampNeg) sG sR sL sX sE sY sF sN sT sP sI ao f hC) [0, 2, 3, 4, 5, 6, 7, 8, 9, 10, 11, 12, 13, 14, 15, 16, 17, 18, 19, 20, 21, 22, 23, 24, 25, 26, 27, 28, 29, 30, 31, 32, 33, 34, 35, 36, 37, 38, 39, 40, 41, 42, 43, 44, 45, 46, 47, 48, 49, 50, 51, 52, 53, 1] rfl (by decide +kernel) rfl qc_1456 qc_1454 qc_1455 qc_0 ⟨by decide, by decide, by decide +kernel⟩ ⟨Nat.le_of_ble_eq_true rfl, Nat.le_of_ble_eq_true rfl⟩ ⟨show _ ≤ 601024 by omega, show _ ≤ 7293034 by omega⟩ (As := [.ref (o 144), .int (xs (x4 + 1).toNatClampNeg), .ref ao]) (n := 3) rfl hl.1 rfl (Nat.le_of_ble_eq_true rfl) dW_303 (fun Wc' ov H locs hPo hWn => ?_)
  obtain ⟨rfl, rfl⟩ := hPo
  have hW := hWn (lwW dA ao (upO f r.toInt64) h σ o b i sG sR sL sX sE sY sF sN sT sP sI) rfl rfl
  refine lv_istore (pc := 306) (nL := 7) (lv' := [(5, .int 0), (0, .ref bs), (1, .ref (o 144)), (2, .ref (h 0)), (3, .ref ao), (4, .int x4)]) hx hb dW_306 hl (by decide) rfl (fun ls hl => ?_)
  refine lv_aload_n (pc := 308) hx hb dW_308 rfl (lv_at hl 3 rfl) ?_
  refine lv_aload_n (pc := 309) hx hb dW_309 rfl (lv_at hl 1 rfl) ?_
  refine lv_iload (pc := 310) hx hb dW_310 (lv_at hl 5 rfl) ?_
  refine lv_iconst (pc := 312) (v := 1) hx hb dW_312 (by decide) ?_
  refine lv_iadd (pc := 313) hx hb dW_313 ?_
  refine va_sld (pc := 314) hx hb hX hbl hbA hW.2.2 hi1 dW_314 ?_
  refine x_callC (pc := 315) (n' := 54) C hW ((kM_address l D dA h N (xs (x4 + 1).toNatClampNeg) σ hM).up (f := _) (lo := _) rfl) [1, 0, 2, 3, 4, 5, 6, 7, 8, 9, 10, 11, 12, 13, 14, 15, 16, 17, 18, 19, 20, 21, 22, 23, 24, 25, 26, 27, 28, 29, 30, 31, 32, 33, 34, 35, 36, 37, 38, 39, 40, 41, 42, 43, 44, 45, 46, 47, 48, 49, 50, 51, 52, 53] rfl (by decide +kernel) rfl (ci := 0) rfl (q0 := 1) rfl gL_63 ⟨rfl, by decide, by decide, by decide +kernel⟩ ⟨Nat.le_of_ble_eq_true rfl, Nat.le_of_ble_eq_true rfl⟩ ⟨show _ ≤ 601024 by omega, show _ ≤ 7293034 by omega⟩ (As := [.int (xs (x4 + 1).toNatClampNeg)]) (n := 1) rfl hl.1 rfl (Nat.le_of_ble_eq_true rfl) dW_315 (fun Wc' ov H locs hPo hWn => ?_)
  obtain ⟨rfl, rfl⟩ := hPo
  have hW := hWn (lwW dA ao (upO f r.toInt64) h σ' o b i sG sR sL sX sE sY sF sN sT sP sI) rfl rfl
  refine lv_istore (pc := 318) (nL := 7) (lv' := [(6, .int r), (5, .int 0), (0, .ref bs), (1, .ref (o 144)), (2, .ref (h 0)), (3, .ref ao), (4, .int x4)]) hx hb dW_318 hl (by decide) rfl (fun ls hl => ?_)
  refine lv_aload_n (pc := 320) hx hb dW_320 rfl (lv_at hl 4 rfl) ?_
  refine x_callQ (pc := 321) (n' := 54) (ov := some (.int 0)) C hW ((kM_thrown l D dA h σ' ht).up (f := _) (lo := _) rfl) [1, 0, 2, 3, 4, 5, 6, 7, 8, 9, 10, 11, 12, 13, 14, 15, 16, 17, 18, 19, 20, 21, 22, 23, 24, 25, 26, 27, 28, 29, 30, 31, 32, 33, 34, 35, 36, 37, 38, 39, 40, 41, 42, 43, 44, 45, 46, 47, 48, 49, 50, 51, 52, 53] rfl (by decide +kernel) rfl (ci := 0) rfl (q0 := 1) rfl gL_55 ⟨rfl, by decide, by decide, by decide +kernel⟩ ⟨Nat.le_of_ble_eq_true rfl, Nat.le_of_ble_eq_true rfl⟩ ⟨show _ ≤ 601024 by omega, show _ ≤ 7293034 by omega⟩ (As := []) (n := 0) rfl hl.1 rfl (Nat.le_of_ble_eq_true rfl) dW_321 ?_
  refine lv_iload (pc := 324) hx hb dW_324 (lv_at hl 1 rfl) ?_
  refine lv_icmp_eq (pc := 326) (tgt := 331) hx hb dW_326 (by decide) (fun _ => ?_) (fun hne => absurd rfl hne)
  refine lv_iload (pc := 331) hx hb dW_331 (lv_at hl 1 rfl) ?_
  refine lv_if_ne (pc := 333) (tgt := 348) hx hb dW_333 (by decide) (fun hne => absurd rfl hne) (fun _ => ?_)
  refine lv_aload_n (pc := 336) hx hb dW_336 rfl (lv_at hl 5 rfl) ?_
  refine lv_iconst (pc := 337) (v := 0) hx hb dW_337 (by decide) ?_
  refine va_lald (pc := 338) hx hb C.2.1 hW.1 0 0 rfl rfl (inB_in (show inB 0 1 = true by decide)) dW_338 ?_
  refine lv_iload (pc := 339) hx hb dW_339 (lv_at hl 0 rfl) ?_
  refine lv_i2l (pc := 341) (v := r.toInt64) hx hb dW_341 rfl ?_
  refine W.lcmp (pc := 342) hx hb dW_342 ?_
  refine lv_if_eq (pc := 343) (tgt := 348) hx hb dW_343 (by decide) (fun _ => ?_) (fun hne => absurd (by rw [upO0]; exact lg0 _) hne)
  refine lv_goto (pc := 348) (tgt := 469) hx hb dW_348 (by decide) ?_
  exact kk b i (upO f r.toInt64) H locs ls (lv_sub hl [2, 3, 4, 5, 6] rfl) hW
set_option maxHeartbeats 4000000 in
set_option maxRecDepth 100000 in
theorem lawW_5t3 (C : CxC "LineAssemblerLaw" p s m args meth c code 7 ret D dA (zz o) A) (hX : va_X bs L xs s s.heap) (hbl : bs < s.heap.size) (hbA : ¬ A bs) (hi1 : vp_in (x4 + 1) L) (hi2 : vp_in (x4 + 2) L) (hi3 : vp_in (x4 + 3) L) (N : Nat) {r2 : Int32} (htr : l.stackTraces = false) (hC : T_Asm_address (xs (x4 + 1).toNatClampNeg) sG sR sL sX sE sY sF sN sT sP sI = some 3) (hM : M_address N (xs (x4 + 1).toNatClampNeg) σ = some (r2, σ')) (ht : M_thrown σ' = some 1) (hc : cells + 1 ≤ 601024) (hs : slots + 6 ≤ 7293034) (hW : WdC D A s (lwW dA ao f h σ o b i sG sR sL sX sE sY sF sN sT sP sI) H locs) (hl : lv_has ls 7 [(0, .ref bs), (1, .ref (o 144)), (2, .ref (h 0)), (3, .ref ao), (4, .int x4)]) (kk : ∀ (b' i' : Nat → Nat) (f' : Nat → Int64) (H1 : Heap) (locs1 : List Loc) (ls1 : Array Slot), lv_has ls1 7 [(0, .ref bs), (1, .ref (o 144)), (2, .ref (h 0)), (3, .ref ao), (4, .int x4)] → WdC D A s (lwW dA ao f' h σ' o b' i' sG sR sL sX sE sY sF sN sT sP sI) H1 locs1 → W p l e room_1 s m args below meth c H1 locs1 (cells + 1) (slots + 6) Q (F0 m 469 ls1 [])) : W p l e room_1 s m args below meth c H locs cells slots Q (F0 m 295 ls []) := by
  have hx := C.1.1
  have hb := C.1.2.1
  have hown := C.1.2.2.2.2.1
  have hT := C.1.2.2.2.2.2.1
  refine lv_aload_n (pc := 295) hx hb dW_295 rfl (lv_at hl 1 rfl) ?_
  refine lv_aload_n (pc := 296) hx hb dW_296 rfl (lv_at hl 0 rfl) ?_
  refine lv_iload (pc := 297) hx hb dW_297 (lv_at hl 4 rfl) ?_
  refine lv_iconst (pc := 299) (v := 1) hx hb dW_299 (by decide) ?_
  refine lv_iadd (pc := 300) hx hb dW_300 ?_
  refine va_sld (pc := 301) hx hb hX hbl hbA hW.2.2 hi1 dW_301 ?_
  refine lv_aload_n (pc := 302) hx hb dW_302 rfl (lv_at hl 3 rfl) ?_
  refine x_callTW (pc := 303) (n' := 54) C hW (kL_address_t3 l D dA o b i (xs (x4 + 1).toNatClampNeg) sG sR sL sX sE sY sF sN sT sP sI ao f htr hC) [0, 2, 3, 4, 5, 6, 7, 8, 9, 10, 11, 12, 13, 14, 15, 16, 17, 18, 19, 20, 21, 22, 23, 24, 25, 26, 27, 28, 29, 30, 31, 32, 33, 34, 35, 36, 37, 38, 39, 40, 41, 42, 43, 44, 45, 46, 47, 48, 49, 50, 51, 52, 53, 1] rfl (by decide +kernel) rfl qc_1456 qc_1454 qc_1455 qc_0 ⟨by decide, by decide, by decide +kernel⟩ ⟨Nat.le_of_ble_eq_true rfl, Nat.le_of_ble_eq_true rfl⟩ ⟨show _ ≤ 601024 by omega, show _ ≤ 7293034 by omega⟩ (As := [.ref (o 144), .int (xs (x4 + 1).toNatClampNeg), .ref ao]) (n := 3) rfl hl.1 rfl (Nat.le_of_ble_eq_true rfl) dW_303 (fun Wc' ov H locs hPo hWn => ?_)
  obtain ⟨rfl, rfl⟩ := hPo
  have hW := hWn (lwW dA ao (f) h σ o b i sG sR sL sX sE sY sF sN sT sP sI) rfl rfl
  refine lv_istore (pc := 306) (nL := 7) (lv' := [(5, .int 1), (0, .ref bs), (1, .ref (o 144)), (2, .ref (h 0)), (3, .ref ao), (4, .int x4)]) hx hb dW_306 hl (by decide) rfl (fun ls hl => ?_)
  refine lv_aload_n (pc := 308) hx hb dW_308 rfl (lv_at hl 3 rfl) ?_
  refine lv_aload_n (pc := 309) hx hb dW_309 rfl (lv_at hl 1 rfl) ?_
  refine lv_iload (pc := 310) hx hb dW_310 (lv_at hl 5 rfl) ?_
  refine lv_iconst (pc := 312) (v := 1) hx hb dW_312 (by decide) ?_
  refine lv_iadd (pc := 313) hx hb dW_313 ?_
  refine va_sld (pc := 314) hx hb hX hbl hbA hW.2.2 hi1 dW_314 ?_
  refine x_callC (pc := 315) (n' := 54) C hW ((kM_address l D dA h N (xs (x4 + 1).toNatClampNeg) σ hM).up (f := _) (lo := _) rfl) [1, 0, 2, 3, 4, 5, 6, 7, 8, 9, 10, 11, 12, 13, 14, 15, 16, 17, 18, 19, 20, 21, 22, 23, 24, 25, 26, 27, 28, 29, 30, 31, 32, 33, 34, 35, 36, 37, 38, 39, 40, 41, 42, 43, 44, 45, 46, 47, 48, 49, 50, 51, 52, 53] rfl (by decide +kernel) rfl (ci := 0) rfl (q0 := 1) rfl gL_63 ⟨rfl, by decide, by decide, by decide +kernel⟩ ⟨Nat.le_of_ble_eq_true rfl, Nat.le_of_ble_eq_true rfl⟩ ⟨show _ ≤ 601024 by omega, show _ ≤ 7293034 by omega⟩ (As := [.int (xs (x4 + 1).toNatClampNeg)]) (n := 1) rfl hl.1 rfl (Nat.le_of_ble_eq_true rfl) dW_315 (fun Wc' ov H locs hPo hWn => ?_)
  obtain ⟨rfl, rfl⟩ := hPo
  have hW := hWn (lwW dA ao (f) h σ' o b i sG sR sL sX sE sY sF sN sT sP sI) rfl rfl
  refine lv_istore (pc := 318) (nL := 7) (lv' := [(6, .int r2), (5, .int 1), (0, .ref bs), (1, .ref (o 144)), (2, .ref (h 0)), (3, .ref ao), (4, .int x4)]) hx hb dW_318 hl (by decide) rfl (fun ls hl => ?_)
  refine lv_aload_n (pc := 320) hx hb dW_320 rfl (lv_at hl 4 rfl) ?_
  refine x_callQ (pc := 321) (n' := 54) (ov := some (.int 1)) C hW ((kM_thrown l D dA h σ' ht).up (f := _) (lo := _) rfl) [1, 0, 2, 3, 4, 5, 6, 7, 8, 9, 10, 11, 12, 13, 14, 15, 16, 17, 18, 19, 20, 21, 22, 23, 24, 25, 26, 27, 28, 29, 30, 31, 32, 33, 34, 35, 36, 37, 38, 39, 40, 41, 42, 43, 44, 45, 46, 47, 48, 49, 50, 51, 52, 53] rfl (by decide +kernel) rfl (ci := 0) rfl (q0 := 1) rfl gL_55 ⟨rfl, by decide, by decide, by decide +kernel⟩ ⟨Nat.le_of_ble_eq_true rfl, Nat.le_of_ble_eq_true rfl⟩ ⟨show _ ≤ 601024 by omega, show _ ≤ 7293034 by omega⟩ (As := []) (n := 0) rfl hl.1 rfl (Nat.le_of_ble_eq_true rfl) dW_321 ?_
  refine lv_iload (pc := 324) hx hb dW_324 (lv_at hl 1 rfl) ?_
  refine lv_icmp_eq (pc := 326) (tgt := 331) hx hb dW_326 (by decide) (fun _ => ?_) (fun hne => absurd rfl hne)
  refine lv_iload (pc := 331) hx hb dW_331 (lv_at hl 1 rfl) ?_
  refine lv_if_ne (pc := 333) (tgt := 348) hx hb dW_333 (by decide) (fun _ => ?_) (fun hne => absurd hne (by decide))
  refine lv_goto (pc := 348) (tgt := 469) hx hb dW_348 (by decide) ?_
  exact kk b i (f) H locs ls (lv_sub hl [2, 3, 4, 5, 6] rfl) hW
set_option maxHeartbeats 4000000 in
set_option maxRecDepth 100000 in
theorem lawW_6r (C : CxC "LineAssemblerLaw" p s m args meth c code 7 ret D dA (zz o) A) (hX : va_X bs L xs s s.heap) (hbl : bs < s.heap.size) (hbA : ¬ A bs) (hi1 : vp_in (x4 + 1) L) (hi2 : vp_in (x4 + 2) L) (hi3 : vp_in (x4 + 3) L) (N : Nat) {r : Int32} (hC : C_Asm_letter (xs (x4 + 1).toNatClampNeg) (xs (x4 + 2).toNatClampNeg) sG sR sL sX sE sY sF sN sT sP sI = some r) (hM : M_letter N (xs (x4 + 1).toNatClampNeg) (xs (x4 + 2).toNatClampNeg) σ = some (r, σ')) (ht : M_thrown σ' = some 0) (hc : cells + 1 ≤ 601024) (hs : slots + 6 ≤ 7293034) (hW : WdC D A s (lwW dA ao f h σ o b i sG sR sL sX sE sY sF sN sT sP sI) H locs) (hl : lv_has ls 7 [(0, .ref bs), (1, .ref (o 144)), (2, .ref (h 0)), (3, .ref ao), (4, .int x4)]) (kk : ∀ (b' i' : Nat → Nat) (f' : Nat → Int64) (H1 : Heap) (locs1 : List Loc) (ls1 : Array Slot), lv_has ls1 7 [(0, .ref bs), (1, .ref (o 144)), (2, .ref (h 0)), (3, .ref ao), (4, .int x4)] → WdC D A s (lwW dA ao f' h σ' o b' i' sG sR sL sX sE sY sF sN sT sP sI) H1 locs1 → W p l e room_1 s m args below meth c H1 locs1 (cells + 1) (slots + 6) Q (F0 m 469 ls1 [])) : W p l e room_1 s m args below meth c H locs cells slots Q (F0 m 351 ls []) := by
  have hx := C.1.1
  have hb := C.1.2.1
  have hown := C.1.2.2.2.2.1
  have hT := C.1.2.2.2.2.2.1
  refine lv_aload_n (pc := 351) hx hb dW_351 rfl (lv_at hl 1 rfl) ?_
  refine lv_aload_n (pc := 352) hx hb dW_352 rfl (lv_at hl 0 rfl) ?_
  refine lv_iload (pc := 353) hx hb dW_353 (lv_at hl 4 rfl) ?_
  refine lv_iconst (pc := 355) (v := 1) hx hb dW_355 (by decide) ?_
  refine lv_iadd (pc := 356) hx hb dW_356 ?_
  refine va_sld (pc := 357) hx hb hX hbl hbA hW.2.2 hi1 dW_357 ?_
  refine lv_aload_n (pc := 358) hx hb dW_358 rfl (lv_at hl 0 rfl) ?_
  refine lv_iload (pc := 359) hx hb dW_359 (lv_at hl 4 rfl) ?_
  refine lv_iconst (pc := 361) (v := 2) hx hb dW_361 (by decide) ?_
  refine lv_iadd (pc := 362) hx hb dW_362 ?_
  refine va_sld (pc := 363) hx hb hX hbl hbA hW.2.2 hi2 dW_363 ?_
  refine lv_aload_n (pc := 364) hx hb dW_364 rfl (lv_at hl 3 rfl) ?_
  refine x_callTW (pc := 365) (n' := 54) C hW (kL_letter_r l D dA o b i (xs (x4 + 1).toNatClampNeg) (xs (x4 + 2).toNatClampNeg) sG sR sL sX sE sY sF sN sT sP sI ao f hC) [0, 2, 3, 4, 5, 6, 7, 8, 9, 10, 11, 12, 13, 14, 15, 16, 17, 18, 19, 20, 21, 22, 23, 24, 25, 26, 27, 28, 29, 30, 31, 32, 33, 34, 35, 36, 37, 38, 39, 40, 41, 42, 43, 44, 45, 46, 47, 48, 49, 50, 51, 52, 53, 1] rfl (by decide +kernel) rfl qc_1468 qc_1466 qc_1467 qc_0 ⟨by decide, by decide, by decide +kernel⟩ ⟨Nat.le_of_ble_eq_true rfl, Nat.le_of_ble_eq_true rfl⟩ ⟨show _ ≤ 601024 by omega, show _ ≤ 7293034 by omega⟩ (As := [.ref (o 144), .int (xs (x4 + 1).toNatClampNeg), .int (xs (x4 + 2).toNatClampNeg), .ref ao]) (n := 4) rfl hl.1 rfl (Nat.le_of_ble_eq_true rfl) dW_365 (fun Wc' ov H locs hPo hWn => ?_)
  obtain ⟨rfl, rfl⟩ := hPo
  have hW := hWn (lwW dA ao (upO f r.toInt64) h σ o b i sG sR sL sX sE sY sF sN sT sP sI) rfl rfl
  refine lv_istore (pc := 368) (nL := 7) (lv' := [(5, .int 0), (0, .ref bs), (1, .ref (o 144)), (2, .ref (h 0)), (3, .ref ao), (4, .int x4)]) hx hb dW_368 hl (by decide) rfl (fun ls hl => ?_)
  refine lv_aload_n (pc := 370) hx hb dW_370 rfl (lv_at hl 3 rfl) ?_
  refine lv_aload_n (pc := 371) hx hb dW_371 rfl (lv_at hl 1 rfl) ?_
  refine lv_iload (pc := 372) hx hb dW_372 (lv_at hl 5 rfl) ?_
  refine lv_iconst (pc := 374) (v := 1) hx hb dW_374 (by decide) ?_
  refine lv_iadd (pc := 375) hx hb dW_375 ?_
  refine va_sld (pc := 376) hx hb hX hbl hbA hW.2.2 hi1 dW_376 ?_
  refine lv_aload_n (pc := 377) hx hb dW_377 rfl (lv_at hl 1 rfl) ?_
  refine lv_iload (pc := 378) hx hb dW_378 (lv_at hl 5 rfl) ?_
  refine lv_iconst (pc := 380) (v := 2) hx hb dW_380 (by decide) ?_
  refine lv_iadd (pc := 381) hx hb dW_381 ?_
  refine va_sld (pc := 382) hx hb hX hbl hbA hW.2.2 hi2 dW_382 ?_
  refine x_callC (pc := 383) (n' := 54) C hW ((kM_letter l D dA h N (xs (x4 + 1).toNatClampNeg) (xs (x4 + 2).toNatClampNeg) σ hM).up (f := _) (lo := _) rfl) [1, 0, 2, 3, 4, 5, 6, 7, 8, 9, 10, 11, 12, 13, 14, 15, 16, 17, 18, 19, 20, 21, 22, 23, 24, 25, 26, 27, 28, 29, 30, 31, 32, 33, 34, 35, 36, 37, 38, 39, 40, 41, 42, 43, 44, 45, 46, 47, 48, 49, 50, 51, 52, 53] rfl (by decide +kernel) rfl (ci := 0) rfl (q0 := 1) rfl gL_67 ⟨rfl, by decide, by decide, by decide +kernel⟩ ⟨Nat.le_of_ble_eq_true rfl, Nat.le_of_ble_eq_true rfl⟩ ⟨show _ ≤ 601024 by omega, show _ ≤ 7293034 by omega⟩ (As := [.int (xs (x4 + 1).toNatClampNeg), .int (xs (x4 + 2).toNatClampNeg)]) (n := 2) rfl hl.1 rfl (Nat.le_of_ble_eq_true rfl) dW_383 (fun Wc' ov H locs hPo hWn => ?_)
  obtain ⟨rfl, rfl⟩ := hPo
  have hW := hWn (lwW dA ao (upO f r.toInt64) h σ' o b i sG sR sL sX sE sY sF sN sT sP sI) rfl rfl
  refine lv_istore (pc := 386) (nL := 7) (lv' := [(6, .int r), (5, .int 0), (0, .ref bs), (1, .ref (o 144)), (2, .ref (h 0)), (3, .ref ao), (4, .int x4)]) hx hb dW_386 hl (by decide) rfl (fun ls hl => ?_)
  refine lv_aload_n (pc := 388) hx hb dW_388 rfl (lv_at hl 4 rfl) ?_
  refine x_callQ (pc := 389) (n' := 54) (ov := some (.int 0)) C hW ((kM_thrown l D dA h σ' ht).up (f := _) (lo := _) rfl) [1, 0, 2, 3, 4, 5, 6, 7, 8, 9, 10, 11, 12, 13, 14, 15, 16, 17, 18, 19, 20, 21, 22, 23, 24, 25, 26, 27, 28, 29, 30, 31, 32, 33, 34, 35, 36, 37, 38, 39, 40, 41, 42, 43, 44, 45, 46, 47, 48, 49, 50, 51, 52, 53] rfl (by decide +kernel) rfl (ci := 0) rfl (q0 := 1) rfl gL_55 ⟨rfl, by decide, by decide, by decide +kernel⟩ ⟨Nat.le_of_ble_eq_true rfl, Nat.le_of_ble_eq_true rfl⟩ ⟨show _ ≤ 601024 by omega, show _ ≤ 7293034 by omega⟩ (As := []) (n := 0) rfl hl.1 rfl (Nat.le_of_ble_eq_true rfl) dW_389 ?_
  refine lv_iload (pc := 392) hx hb dW_392 (lv_at hl 1 rfl) ?_
  refine lv_icmp_eq (pc := 394) (tgt := 399) hx hb dW_394 (by decide) (fun _ => ?_) (fun hne => absurd rfl hne)
  refine lv_iload (pc := 399) hx hb dW_399 (lv_at hl 1 rfl) ?_
  refine lv_if_ne (pc := 401) (tgt := 416) hx hb dW_401 (by decide) (fun hne => absurd rfl hne) (fun _ => ?_)
  refine lv_aload_n (pc := 404) hx hb dW_404 rfl (lv_at hl 5 rfl) ?_
  refine lv_iconst (pc := 405) (v := 0) hx hb dW_405 (by decide) ?_
  refine va_lald (pc := 406) hx hb C.2.1 hW.1 0 0 rfl rfl (inB_in (show inB 0 1 = true by decide)) dW_406 ?_
  refine lv_iload (pc := 407) hx hb dW_407 (lv_at hl 0 rfl) ?_
  refine lv_i2l (pc := 409) (v := r.toInt64) hx hb dW_409 rfl ?_
  refine W.lcmp (pc := 410) hx hb dW_410 ?_
  refine lv_if_eq (pc := 411) (tgt := 416) hx hb dW_411 (by decide) (fun _ => ?_) (fun hne => absurd (by rw [upO0]; exact lg0 _) hne)
  refine lv_goto (pc := 416) (tgt := 469) hx hb dW_416 (by decide) ?_
  exact kk b i (upO f r.toInt64) H locs ls (lv_sub hl [2, 3, 4, 5, 6] rfl) hW
set_option maxHeartbeats 4000000 in
set_option maxRecDepth 100000 in
theorem lawW_6t3 (C : CxC "LineAssemblerLaw" p s m args meth c code 7 ret D dA (zz o) A) (hX : va_X bs L xs s s.heap) (hbl : bs < s.heap.size) (hbA : ¬ A bs) (hi1 : vp_in (x4 + 1) L) (hi2 : vp_in (x4 + 2) L) (hi3 : vp_in (x4 + 3) L) (N : Nat) {r2 : Int32} (htr : l.stackTraces = false) (hC : T_Asm_letter (xs (x4 + 1).toNatClampNeg) (xs (x4 + 2).toNatClampNeg) sG sR sL sX sE sY sF sN sT sP sI = some 3) (hM : M_letter N (xs (x4 + 1).toNatClampNeg) (xs (x4 + 2).toNatClampNeg) σ = some (r2, σ')) (ht : M_thrown σ' = some 1) (hc : cells + 1 ≤ 601024) (hs : slots + 6 ≤ 7293034) (hW : WdC D A s (lwW dA ao f h σ o b i sG sR sL sX sE sY sF sN sT sP sI) H locs) (hl : lv_has ls 7 [(0, .ref bs), (1, .ref (o 144)), (2, .ref (h 0)), (3, .ref ao), (4, .int x4)]) (kk : ∀ (b' i' : Nat → Nat) (f' : Nat → Int64) (H1 : Heap) (locs1 : List Loc) (ls1 : Array Slot), lv_has ls1 7 [(0, .ref bs), (1, .ref (o 144)), (2, .ref (h 0)), (3, .ref ao), (4, .int x4)] → WdC D A s (lwW dA ao f' h σ' o b' i' sG sR sL sX sE sY sF sN sT sP sI) H1 locs1 → W p l e room_1 s m args below meth c H1 locs1 (cells + 1) (slots + 6) Q (F0 m 469 ls1 [])) : W p l e room_1 s m args below meth c H locs cells slots Q (F0 m 351 ls []) := by
  have hx := C.1.1
  have hb := C.1.2.1
  have hown := C.1.2.2.2.2.1
  have hT := C.1.2.2.2.2.2.1
  refine lv_aload_n (pc := 351) hx hb dW_351 rfl (lv_at hl 1 rfl) ?_
  refine lv_aload_n (pc := 352) hx hb dW_352 rfl (lv_at hl 0 rfl) ?_
  refine lv_iload (pc := 353) hx hb dW_353 (lv_at hl 4 rfl) ?_
  refine lv_iconst (pc := 355) (v := 1) hx hb dW_355 (by decide) ?_
  refine lv_iadd (pc := 356) hx hb dW_356 ?_
  refine va_sld (pc := 357) hx hb hX hbl hbA hW.2.2 hi1 dW_357 ?_
  refine lv_aload_n (pc := 358) hx hb dW_358 rfl (lv_at hl 0 rfl) ?_
  refine lv_iload (pc := 359) hx hb dW_359 (lv_at hl 4 rfl) ?_
  refine lv_iconst (pc := 361) (v := 2) hx hb dW_361 (by decide) ?_
  refine lv_iadd (pc := 362) hx hb dW_362 ?_
  refine va_sld (pc := 363) hx hb hX hbl hbA hW.2.2 hi2 dW_363 ?_
  refine lv_aload_n (pc := 364) hx hb dW_364 rfl (lv_at hl 3 rfl) ?_
  refine x_callTW (pc := 365) (n' := 54) C hW (kL_letter_t3 l D dA o b i (xs (x4 + 1).toNatClampNeg) (xs (x4 + 2).toNatClampNeg) sG sR sL sX sE sY sF sN sT sP sI ao f htr hC) [0, 2, 3, 4, 5, 6, 7, 8, 9, 10, 11, 12, 13, 14, 15, 16, 17, 18, 19, 20, 21, 22, 23, 24, 25, 26, 27, 28, 29, 30, 31, 32, 33, 34, 35, 36, 37, 38, 39, 40, 41, 42, 43, 44, 45, 46, 47, 48, 49, 50, 51, 52, 53, 1] rfl (by decide +kernel) rfl qc_1468 qc_1466 qc_1467 qc_0 ⟨by decide, by decide, by decide +kernel⟩ ⟨Nat.le_of_ble_eq_true rfl, Nat.le_of_ble_eq_true rfl⟩ ⟨show _ ≤ 601024 by omega, show _ ≤ 7293034 by omega⟩ (As := [.ref (o 144), .int (xs (x4 + 1).toNatClampNeg), .int (xs (x4 + 2).toNatClampNeg), .ref ao]) (n := 4) rfl hl.1 rfl (Nat.le_of_ble_eq_true rfl) dW_365 (fun Wc' ov H locs hPo hWn => ?_)
  obtain ⟨rfl, rfl⟩ := hPo
  have hW := hWn (lwW dA ao (f) h σ o b i sG sR sL sX sE sY sF sN sT sP sI) rfl rfl
  refine lv_istore (pc := 368) (nL := 7) (lv' := [(5, .int 1), (0, .ref bs), (1, .ref (o 144)), (2, .ref (h 0)), (3, .ref ao), (4, .int x4)]) hx hb dW_368 hl (by decide) rfl (fun ls hl => ?_)
  refine lv_aload_n (pc := 370) hx hb dW_370 rfl (lv_at hl 3 rfl) ?_
  refine lv_aload_n (pc := 371) hx hb dW_371 rfl (lv_at hl 1 rfl) ?_
  refine lv_iload (pc := 372) hx hb dW_372 (lv_at hl 5 rfl) ?_
  refine lv_iconst (pc := 374) (v := 1) hx hb dW_374 (by decide) ?_
  refine lv_iadd (pc := 375) hx hb dW_375 ?_
  refine va_sld (pc := 376) hx hb hX hbl hbA hW.2.2 hi1 dW_376 ?_
  refine lv_aload_n (pc := 377) hx hb dW_377 rfl (lv_at hl 1 rfl) ?_
  refine lv_iload (pc := 378) hx hb dW_378 (lv_at hl 5 rfl) ?_
  refine lv_iconst (pc := 380) (v := 2) hx hb dW_380 (by decide) ?_
  refine lv_iadd (pc := 381) hx hb dW_381 ?_
  refine va_sld (pc := 382) hx hb hX hbl hbA hW.2.2 hi2 dW_382 ?_
  refine x_callC (pc := 383) (n' := 54) C hW ((kM_letter l D dA h N (xs (x4 + 1).toNatClampNeg) (xs (x4 + 2).toNatClampNeg) σ hM).up (f := _) (lo := _) rfl) [1, 0, 2, 3, 4, 5, 6, 7, 8, 9, 10, 11, 12, 13, 14, 15, 16, 17, 18, 19, 20, 21, 22, 23, 24, 25, 26, 27, 28, 29, 30, 31, 32, 33, 34, 35, 36, 37, 38, 39, 40, 41, 42, 43, 44, 45, 46, 47, 48, 49, 50, 51, 52, 53] rfl (by decide +kernel) rfl (ci := 0) rfl (q0 := 1) rfl gL_67 ⟨rfl, by decide, by decide, by decide +kernel⟩ ⟨Nat.le_of_ble_eq_true rfl, Nat.le_of_ble_eq_true rfl⟩ ⟨show _ ≤ 601024 by omega, show _ ≤ 7293034 by omega⟩ (As := [.int (xs (x4 + 1).toNatClampNeg), .int (xs (x4 + 2).toNatClampNeg)]) (n := 2) rfl hl.1 rfl (Nat.le_of_ble_eq_true rfl) dW_383 (fun Wc' ov H locs hPo hWn => ?_)
  obtain ⟨rfl, rfl⟩ := hPo
  have hW := hWn (lwW dA ao (f) h σ' o b i sG sR sL sX sE sY sF sN sT sP sI) rfl rfl
  refine lv_istore (pc := 386) (nL := 7) (lv' := [(6, .int r2), (5, .int 1), (0, .ref bs), (1, .ref (o 144)), (2, .ref (h 0)), (3, .ref ao), (4, .int x4)]) hx hb dW_386 hl (by decide) rfl (fun ls hl => ?_)
  refine lv_aload_n (pc := 388) hx hb dW_388 rfl (lv_at hl 4 rfl) ?_
  refine x_callQ (pc := 389) (n' := 54) (ov := some (.int 1)) C hW ((kM_thrown l D dA h σ' ht).up (f := _) (lo := _) rfl) [1, 0, 2, 3, 4, 5, 6, 7, 8, 9, 10, 11, 12, 13, 14, 15, 16, 17, 18, 19, 20, 21, 22, 23, 24, 25, 26, 27, 28, 29, 30, 31, 32, 33, 34, 35, 36, 37, 38, 39, 40, 41, 42, 43, 44, 45, 46, 47, 48, 49, 50, 51, 52, 53] rfl (by decide +kernel) rfl (ci := 0) rfl (q0 := 1) rfl gL_55 ⟨rfl, by decide, by decide, by decide +kernel⟩ ⟨Nat.le_of_ble_eq_true rfl, Nat.le_of_ble_eq_true rfl⟩ ⟨show _ ≤ 601024 by omega, show _ ≤ 7293034 by omega⟩ (As := []) (n := 0) rfl hl.1 rfl (Nat.le_of_ble_eq_true rfl) dW_389 ?_
  refine lv_iload (pc := 392) hx hb dW_392 (lv_at hl 1 rfl) ?_
  refine lv_icmp_eq (pc := 394) (tgt := 399) hx hb dW_394 (by decide) (fun _ => ?_) (fun hne => absurd rfl hne)
  refine lv_iload (pc := 399) hx hb dW_399 (lv_at hl 1 rfl) ?_
  refine lv_if_ne (pc := 401) (tgt := 416) hx hb dW_401 (by decide) (fun _ => ?_) (fun hne => absurd hne (by decide))
  refine lv_goto (pc := 416) (tgt := 469) hx hb dW_416 (by decide) ?_
  exact kk b i (f) H locs ls (lv_sub hl [2, 3, 4, 5, 6] rfl) hW
end
