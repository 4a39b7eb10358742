theorem qc_4 : (Jvm.Cond.initialized "java/util/Arrays") ∈ lw_gd := uc_0 (List.mem_of_getElem? (i := 4) (by decide +kernel)) (by decide +kernel)
theorem qc_76 : (Jvm.Cond.methodLink "LineAssembler$Row" (17 : Nat) ({ cls := "java/util/Arrays", name := "copyOf", desc := "([II)[I" } : Jvm.MethodName)) ∈ lw_gd := uc_0 (List.mem_of_getElem? (i := 76) (by decide +kernel)) (by decide +kernel)
theorem qc_77 : (Jvm.Cond.static ({ cls := "java/util/Arrays", name := "copyOf", desc := "([II)[I" } : Jvm.MethodName)) ∈ lw_gd := uc_0 (List.mem_of_getElem? (i := 77) (by decide +kernel)) (by decide +kernel)
theorem qc_78 : (Jvm.Cond.code ({ cls := "java/util/Arrays", name := "copyOf", desc := "([II)[I" } : Jvm.MethodName) prog_38_method_123_code (3 : Nat) (Option.some (Jvm.ClassFile.FieldType.array Jvm.ClassFile.FieldType.int))) ∈ lw_gd := uc_0 (List.mem_of_getElem? (i := 78) (by decide +kernel)) (by decide +kernel)
theorem qc_611 : (Jvm.Cond.methodLink "LineAssembler$Row" (29 : Nat) ({ cls := "java/util/Arrays", name := "fill", desc := "([IIII)V" } : Jvm.MethodName)) ∈ lw_gd := uc_2 (List.mem_of_getElem? (i := 131) (by decide +kernel)) (by decide +kernel)
theorem qc_612 : (Jvm.Cond.static ({ cls := "java/util/Arrays", name := "fill", desc := "([IIII)V" } : Jvm.MethodName)) ∈ lw_gd := uc_2 (List.mem_of_getElem? (i := 132) (by decide +kernel)) (by decide +kernel)
theorem qc_613 : (Jvm.Cond.code ({ cls := "java/util/Arrays", name := "fill", desc := "([IIII)V" } : Jvm.MethodName) prog_38_method_104_code (5 : Nat) (Option.none : Option Jvm.ClassFile.FieldType)) ∈ lw_gd := uc_2 (List.mem_of_getElem? (i := 133) (by decide +kernel)) (by decide +kernel)
theorem qc_614 : (Jvm.Cond.methodLink "java/util/Arrays" (13 : Nat) ({ cls := "java/util/Arrays", name := "rangeCheck", desc := "(III)V" } : Jvm.MethodName)) ∈ lw_gd := uc_2 (List.mem_of_getElem? (i := 134) (by decide +kernel)) (by decide +kernel)
theorem qc_615 : (Jvm.Cond.static ({ cls := "java/util/Arrays", name := "rangeCheck", desc := "(III)V" } : Jvm.MethodName)) ∈ lw_gd := uc_2 (List.mem_of_getElem? (i := 135) (by decide +kernel)) (by decide +kernel)
theorem qc_616 : (Jvm.Cond.code ({ cls := "java/util/Arrays", name := "rangeCheck", desc := "(III)V" } : Jvm.MethodName) prog_38_method_30_code (3 : Nat) (Option.none : Option Jvm.ClassFile.FieldType)) ∈ lw_gd := uc_2 (List.mem_of_getElem? (i := 136) (by decide +kernel)) (by decide +kernel)
theorem qc_713 : (Jvm.Cond.static ({ cls := "java/lang/Math", name := "max", desc := "(II)I" } : Jvm.MethodName)) ∈ lw_gd := uc_2 (List.mem_of_getElem? (i := 233) (by decide +kernel)) (by decide +kernel)
theorem qc_714 : (Jvm.Cond.code ({ cls := "java/lang/Math", name := "max", desc := "(II)I" } : Jvm.MethodName) prog_27_method_65_code (2 : Nat) (Option.some Jvm.ClassFile.FieldType.int)) ∈ lw_gd := uc_2 (List.mem_of_getElem? (i := 234) (by decide +kernel)) (by decide +kernel)
theorem qc_1043 : (Jvm.Cond.methodLink "LineAssembler$Tokens" (31 : Nat) ({ cls := "java/util/Arrays", name := "copyOf", desc := "([II)[I" } : Jvm.MethodName)) ∈ lw_gd := uc_4 (List.mem_of_getElem? (i := 83) (by decide +kernel)) (by decide +kernel)
theorem qc_1362 : (Jvm.Cond.methodLink "LineAssembler$Row" (23 : Nat) ({ cls := "java/lang/Math", name := "max", desc := "(II)I" } : Jvm.MethodName)) ∈ lw_gd := uc_5 (List.mem_of_getElem? (i := 162) (by decide +kernel)) (by decide +kernel)
abbrev cC_Arr_rangeCheck : ByteArray := prog_38_method_30_code
def yC_Arr_rangeCheck : MethodName := ⟨"java/util/Arrays", "rangeCheck", "(III)V"⟩
abbrev rm_Arr_rangeCheck : Room := { frames := 0, cells := 0, slots := 0, locals := 0 }
theorem dC_Arr_rangeCheck_0 : decode cC_Arr_rangeCheck 0 = .ok (.iload_n 1, 1) := by decide +kernel
theorem dC_Arr_rangeCheck_1 : decode cC_Arr_rangeCheck 1 = .ok (.iload_n 2, 1) := by decide +kernel
theorem dC_Arr_rangeCheck_2 : decode cC_Arr_rangeCheck 2 = .ok (.if_icmp .le (44), 3) := by decide +kernel
theorem dC_Arr_rangeCheck_5 : decode cC_Arr_rangeCheck 5 = .ok (.new 43, 3) := by decide +kernel
theorem dC_Arr_rangeCheck_46 : decode cC_Arr_rangeCheck 46 = .ok (.iload_n 1, 1) := by decide +kernel
theorem dC_Arr_rangeCheck_47 : decode cC_Arr_rangeCheck 47 = .ok (.ifCond .ge (12), 3) := by decide +kernel
theorem dC_Arr_rangeCheck_50 : decode cC_Arr_rangeCheck 50 = .ok (.new 68, 3) := by decide +kernel
theorem dC_Arr_rangeCheck_59 : decode cC_Arr_rangeCheck 59 = .ok (.iload_n 2, 1) := by decide +kernel
theorem dC_Arr_rangeCheck_60 : decode cC_Arr_rangeCheck 60 = .ok (.iload_n 0, 1) := by decide +kernel
theorem dC_Arr_rangeCheck_61 : decode cC_Arr_rangeCheck 61 = .ok (.if_icmp .le (12), 3) := by decide +kernel
theorem dC_Arr_rangeCheck_64 : decode cC_Arr_rangeCheck 64 = .ok (.new 68, 3) := by decide +kernel
theorem dC_Arr_rangeCheck_73 : decode cC_Arr_rangeCheck 73 = .ok (.return_, 1) := by decide +kernel
abbrev cC_Arr_fill : ByteArray := prog_38_method_104_code
def yC_Arr_fill : MethodName := ⟨"java/util/Arrays", "fill", "([IIII)V"⟩
theorem dC_Arr_fill_0 : decode cC_Arr_fill 0 = .ok (.aload_n 0, 1) := by decide +kernel
theorem dC_Arr_fill_1 : decode cC_Arr_fill 1 = .ok (.arraylength, 1) := by decide +kernel
theorem dC_Arr_fill_2 : decode cC_Arr_fill 2 = .ok (.iload_n 1, 1) := by decide +kernel
theorem dC_Arr_fill_3 : decode cC_Arr_fill 3 = .ok (.iload_n 2, 1) := by decide +kernel
theorem dC_Arr_fill_4 : decode cC_Arr_fill 4 = .ok (.invokestatic 13, 3) := by decide +kernel
theorem dC_Arr_fill_7 : decode cC_Arr_fill 7 = .ok (.iload_n 1, 1) := by decide +kernel
theorem dC_Arr_fill_8 : decode cC_Arr_fill 8 = .ok (.istore 4, 2) := by decide +kernel
theorem dC_Arr_fill_10 : decode cC_Arr_fill 10 = .ok (.iload 4, 2) := by decide +kernel
theorem dC_Arr_fill_12 : decode cC_Arr_fill 12 = .ok (.iload_n 2, 1) := by decide +kernel
theorem dC_Arr_fill_13 : decode cC_Arr_fill 13 = .ok (.if_icmp .ge (14), 3) := by decide +kernel
theorem dC_Arr_fill_16 : decode cC_Arr_fill 16 = .ok (.aload_n 0, 1) := by decide +kernel
theorem dC_Arr_fill_17 : decode cC_Arr_fill 17 = .ok (.iload 4, 2) := by decide +kernel
theorem dC_Arr_fill_19 : decode cC_Arr_fill 19 = .ok (.iload_n 3, 1) := by decide +kernel
theorem dC_Arr_fill_20 : decode cC_Arr_fill 20 = .ok (.iastore, 1) := by decide +kernel
theorem dC_Arr_fill_21 : decode cC_Arr_fill 21 = .ok (.iinc 4 (1), 3) := by decide +kernel
theorem dC_Arr_fill_24 : decode cC_Arr_fill 24 = .ok (.goto (-14), 3) := by decide +kernel
theorem dC_Arr_fill_27 : decode cC_Arr_fill 27 = .ok (.return_, 1) := by decide +kernel
abbrev cC_Row_add : ByteArray := prog_11_method_2_code
def yC_Row_add : MethodName := ⟨R_Row, "add", "(I)V"⟩
theorem dC_Row_add_0 : decode cC_Row_add 0 = .ok (.aload_n 0, 1) := by decide +kernel
theorem dC_Row_add_1 : decode cC_Row_add 1 = .ok (.getfield 7, 3) := by decide +kernel
theorem dC_Row_add_4 : decode cC_Row_add 4 = .ok (.aload_n 0, 1) := by decide +kernel
theorem dC_Row_add_5 : decode cC_Row_add 5 = .ok (.getfield 13, 3) := by decide +kernel
theorem dC_Row_add_8 : decode cC_Row_add 8 = .ok (.arraylength, 1) := by decide +kernel
theorem dC_Row_add_9 : decode cC_Row_add 9 = .ok (.if_icmp .lt (23), 3) := by decide +kernel
theorem dC_Row_add_12 : decode cC_Row_add 12 = .ok (.aload_n 0, 1) := by decide +kernel
theorem dC_Row_add_13 : decode cC_Row_add 13 = .ok (.aload_n 0, 1) := by decide +kernel
theorem dC_Row_add_14 : decode cC_Row_add 14 = .ok (.getfield 13, 3) := by decide +kernel
theorem dC_Row_add_17 : decode cC_Row_add 17 = .ok (.iconst (2), 1) := by decide +kernel
theorem dC_Row_add_18 : decode cC_Row_add 18 = .ok (.aload_n 0, 1) := by decide +kernel
theorem dC_Row_add_19 : decode cC_Row_add 19 = .ok (.getfield 7, 3) := by decide +kernel
theorem dC_Row_add_22 : decode cC_Row_add 22 = .ok (.imul, 1) := by decide +kernel
theorem dC_Row_add_23 : decode cC_Row_add 23 = .ok (.bipush (64), 2) := by decide +kernel
theorem dC_Row_add_25 : decode cC_Row_add 25 = .ok (.iadd, 1) := by decide +kernel
theorem dC_Row_add_26 : decode cC_Row_add 26 = .ok (.invokestatic 17, 3) := by decide +kernel
theorem dC_Row_add_29 : decode cC_Row_add 29 = .ok (.putfield 13, 3) := by decide +kernel
theorem dC_Row_add_32 : decode cC_Row_add 32 = .ok (.aload_n 0, 1) := by decide +kernel
theorem dC_Row_add_33 : decode cC_Row_add 33 = .ok (.getfield 13, 3) := by decide +kernel
theorem dC_Row_add_36 : decode cC_Row_add 36 = .ok (.aload_n 0, 1) := by decide +kernel
theorem dC_Row_add_37 : decode cC_Row_add 37 = .ok (.getfield 7, 3) := by decide +kernel
theorem dC_Row_add_40 : decode cC_Row_add 40 = .ok (.iload_n 1, 1) := by decide +kernel
theorem dC_Row_add_41 : decode cC_Row_add 41 = .ok (.iastore, 1) := by decide +kernel
theorem dC_Row_add_42 : decode cC_Row_add 42 = .ok (.aload_n 0, 1) := by decide +kernel
theorem dC_Row_add_43 : decode cC_Row_add 43 = .ok (.dup, 1) := by decide +kernel
theorem dC_Row_add_44 : decode cC_Row_add 44 = .ok (.getfield 7, 3) := by decide +kernel
theorem dC_Row_add_47 : decode cC_Row_add 47 = .ok (.iconst (1), 1) := by decide +kernel
theorem dC_Row_add_48 : decode cC_Row_add 48 = .ok (.iadd, 1) := by decide +kernel
theorem dC_Row_add_49 : decode cC_Row_add 49 = .ok (.putfield 7, 3) := by decide +kernel
theorem dC_Row_add_52 : decode cC_Row_add 52 = .ok (.return_, 1) := by decide +kernel
abbrev cC_Row_fill : ByteArray := prog_11_method_7_code
def yC_Row_fill : MethodName := ⟨R_Row, "fill", "(III)V"⟩
theorem dC_Row_fill_0 : decode cC_Row_fill 0 = .ok (.iload_n 1, 1) := by decide +kernel
theorem dC_Row_fill_1 : decode cC_Row_fill 1 = .ok (.ifCond .lt (26), 3) := by decide +kernel
theorem dC_Row_fill_4 : decode cC_Row_fill 4 = .ok (.iload_n 1, 1) := by decide +kernel
theorem dC_Row_fill_5 : decode cC_Row_fill 5 = .ok (.iload_n 2, 1) := by decide +kernel
theorem dC_Row_fill_6 : decode cC_Row_fill 6 = .ok (.if_icmp .gt (21), 3) := by decide +kernel
theorem dC_Row_fill_9 : decode cC_Row_fill 9 = .ok (.iload_n 2, 1) := by decide +kernel
theorem dC_Row_fill_10 : decode cC_Row_fill 10 = .ok (.aload_n 0, 1) := by decide +kernel
theorem dC_Row_fill_11 : decode cC_Row_fill 11 = .ok (.getfield 7, 3) := by decide +kernel
theorem dC_Row_fill_14 : decode cC_Row_fill 14 = .ok (.if_icmp .gt (13), 3) := by decide +kernel
theorem dC_Row_fill_17 : decode cC_Row_fill 17 = .ok (.aload_n 0, 1) := by decide +kernel
theorem dC_Row_fill_18 : decode cC_Row_fill 18 = .ok (.getfield 13, 3) := by decide +kernel
theorem dC_Row_fill_21 : decode cC_Row_fill 21 = .ok (.iload_n 1, 1) := by decide +kernel
theorem dC_Row_fill_22 : decode cC_Row_fill 22 = .ok (.iload_n 2, 1) := by decide +kernel
theorem dC_Row_fill_23 : decode cC_Row_fill 23 = .ok (.iload_n 3, 1) := by decide +kernel
theorem dC_Row_fill_24 : decode cC_Row_fill 24 = .ok (.invokestatic 29, 3) := by decide +kernel
theorem dC_Row_fill_27 : decode cC_Row_fill 27 = .ok (.return_, 1) := by decide +kernel
abbrev cC_Tok_add : ByteArray := prog_12_method_3_code
def yC_Tok_add : MethodName := ⟨R_Tok, "add", "(III)V"⟩
theorem dC_Tok_add_0 : decode cC_Tok_add 0 = .ok (.aload_n 0, 1) := by decide +kernel
theorem dC_Tok_add_1 : decode cC_Tok_add 1 = .ok (.getfield 15, 3) := by decide +kernel
theorem dC_Tok_add_4 : decode cC_Tok_add 4 = .ok (.aload_n 0, 1) := by decide +kernel
theorem dC_Tok_add_5 : decode cC_Tok_add 5 = .ok (.getfield 21, 3) := by decide +kernel
theorem dC_Tok_add_8 : decode cC_Tok_add 8 = .ok (.arraylength, 1) := by decide +kernel
theorem dC_Tok_add_9 : decode cC_Tok_add 9 = .ok (.if_icmp .ge (27), 3) := by decide +kernel
theorem dC_Tok_add_12 : decode cC_Tok_add 12 = .ok (.aload_n 0, 1) := by decide +kernel
theorem dC_Tok_add_13 : decode cC_Tok_add 13 = .ok (.getfield 15, 3) := by decide +kernel
theorem dC_Tok_add_16 : decode cC_Tok_add 16 = .ok (.aload_n 0, 1) := by decide +kernel
theorem dC_Tok_add_17 : decode cC_Tok_add 17 = .ok (.getfield 25, 3) := by decide +kernel
theorem dC_Tok_add_20 : decode cC_Tok_add 20 = .ok (.arraylength, 1) := by decide +kernel
theorem dC_Tok_add_21 : decode cC_Tok_add 21 = .ok (.if_icmp .ge (15), 3) := by decide +kernel
theorem dC_Tok_add_24 : decode cC_Tok_add 24 = .ok (.aload_n 0, 1) := by decide +kernel
theorem dC_Tok_add_25 : decode cC_Tok_add 25 = .ok (.getfield 15, 3) := by decide +kernel
theorem dC_Tok_add_28 : decode cC_Tok_add 28 = .ok (.aload_n 0, 1) := by decide +kernel
theorem dC_Tok_add_29 : decode cC_Tok_add 29 = .ok (.getfield 28, 3) := by decide +kernel
theorem dC_Tok_add_32 : decode cC_Tok_add 32 = .ok (.arraylength, 1) := by decide +kernel
theorem dC_Tok_add_33 : decode cC_Tok_add 33 = .ok (.if_icmp .lt (53), 3) := by decide +kernel
theorem dC_Tok_add_36 : decode cC_Tok_add 36 = .ok (.iconst (2), 1) := by decide +kernel
theorem dC_Tok_add_37 : decode cC_Tok_add 37 = .ok (.aload_n 0, 1) := by decide +kernel
theorem dC_Tok_add_38 : decode cC_Tok_add 38 = .ok (.getfield 15, 3) := by decide +kernel
theorem dC_Tok_add_41 : decode cC_Tok_add 41 = .ok (.imul, 1) := by decide +kernel
theorem dC_Tok_add_42 : decode cC_Tok_add 42 = .ok (.bipush (64), 2) := by decide +kernel
theorem dC_Tok_add_44 : decode cC_Tok_add 44 = .ok (.iadd, 1) := by decide +kernel
theorem dC_Tok_add_45 : decode cC_Tok_add 45 = .ok (.istore 4, 2) := by decide +kernel
theorem dC_Tok_add_47 : decode cC_Tok_add 47 = .ok (.aload_n 0, 1) := by decide +kernel
theorem dC_Tok_add_48 : decode cC_Tok_add 48 = .ok (.aload_n 0, 1) := by decide +kernel
theorem dC_Tok_add_49 : decode cC_Tok_add 49 = .ok (.getfield 21, 3) := by decide +kernel
theorem dC_Tok_add_52 : decode cC_Tok_add 52 = .ok (.iload 4, 2) := by decide +kernel
theorem dC_Tok_add_54 : decode cC_Tok_add 54 = .ok (.invokestatic 31, 3) := by decide +kernel
theorem dC_Tok_add_57 : decode cC_Tok_add 57 = .ok (.putfield 21, 3) := by decide +kernel
theorem dC_Tok_add_60 : decode cC_Tok_add 60 = .ok (.aload_n 0, 1) := by decide +kernel
theorem dC_Tok_add_61 : decode cC_Tok_add 61 = .ok (.aload_n 0, 1) := by decide +kernel
theorem dC_Tok_add_62 : decode cC_Tok_add 62 = .ok (.getfield 25, 3) := by decide +kernel
theorem dC_Tok_add_65 : decode cC_Tok_add 65 = .ok (.iload 4, 2) := by decide +kernel
theorem dC_Tok_add_67 : decode cC_Tok_add 67 = .ok (.invokestatic 31, 3) := by decide +kernel
theorem dC_Tok_add_70 : decode cC_Tok_add 70 = .ok (.putfield 25, 3) := by decide +kernel
theorem dC_Tok_add_73 : decode cC_Tok_add 73 = .ok (.aload_n 0, 1) := by decide +kernel
theorem dC_Tok_add_74 : decode cC_Tok_add 74 = .ok (.aload_n 0, 1) := by decide +kernel
theorem dC_Tok_add_75 : decode cC_Tok_add 75 = .ok (.getfield 28, 3) := by decide +kernel
theorem dC_Tok_add_78 : decode cC_Tok_add 78 = .ok (.iload 4, 2) := by decide +kernel
theorem dC_Tok_add_80 : decode cC_Tok_add 80 = .ok (.invokestatic 31, 3) := by decide +kernel
theorem dC_Tok_add_83 : decode cC_Tok_add 83 = .ok (.putfield 28, 3) := by decide +kernel
theorem dC_Tok_add_86 : decode cC_Tok_add 86 = .ok (.aload_n 0, 1) := by decide +kernel
theorem dC_Tok_add_87 : decode cC_Tok_add 87 = .ok (.getfield 21, 3) := by decide +kernel
theorem dC_Tok_add_90 : decode cC_Tok_add 90 = .ok (.aload_n 0, 1) := by decide +kernel
theorem dC_Tok_add_91 : decode cC_Tok_add 91 = .ok (.getfield 15, 3) := by decide +kernel
theorem dC_Tok_add_94 : decode cC_Tok_add 94 = .ok (.iload_n 1, 1) := by decide +kernel
theorem dC_Tok_add_95 : decode cC_Tok_add 95 = .ok (.iastore, 1) := by decide +kernel
theorem dC_Tok_add_96 : decode cC_Tok_add 96 = .ok (.aload_n 0, 1) := by decide +kernel
theorem dC_Tok_add_97 : decode cC_Tok_add 97 = .ok (.getfield 25, 3) := by decide +kernel
theorem dC_Tok_add_100 : decode cC_Tok_add 100 = .ok (.aload_n 0, 1) := by decide +kernel
theorem dC_Tok_add_101 : decode cC_Tok_add 101 = .ok (.getfield 15, 3) := by decide +kernel
theorem dC_Tok_add_104 : decode cC_Tok_add 104 = .ok (.iload_n 2, 1) := by decide +kernel
theorem dC_Tok_add_105 : decode cC_Tok_add 105 = .ok (.iastore, 1) := by decide +kernel
theorem dC_Tok_add_106 : decode cC_Tok_add 106 = .ok (.aload_n 0, 1) := by decide +kernel
theorem dC_Tok_add_107 : decode cC_Tok_add 107 = .ok (.getfield 28, 3) := by decide +kernel
theorem dC_Tok_add_110 : decode cC_Tok_add 110 = .ok (.aload_n 0, 1) := by decide +kernel
theorem dC_Tok_add_111 : decode cC_Tok_add 111 = .ok (.getfield 15, 3) := by decide +kernel
theorem dC_Tok_add_114 : decode cC_Tok_add 114 = .ok (.iload_n 3, 1) := by decide +kernel
theorem dC_Tok_add_115 : decode cC_Tok_add 115 = .ok (.iastore, 1) := by decide +kernel
theorem dC_Tok_add_116 : decode cC_Tok_add 116 = .ok (.aload_n 0, 1) := by decide +kernel
theorem dC_Tok_add_117 : decode cC_Tok_add 117 = .ok (.dup, 1) := by decide +kernel
theorem dC_Tok_add_118 : decode cC_Tok_add 118 = .ok (.getfield 15, 3) := by decide +kernel
theorem dC_Tok_add_121 : decode cC_Tok_add 121 = .ok (.iconst (1), 1) := by decide +kernel
theorem dC_Tok_add_122 : decode cC_Tok_add 122 = .ok (.iadd, 1) := by decide +kernel
theorem dC_Tok_add_123 : decode cC_Tok_add 123 = .ok (.putfield 15, 3) := by decide +kernel
theorem dC_Tok_add_126 : decode cC_Tok_add 126 = .ok (.iload_n 1, 1) := by decide +kernel
theorem dC_Tok_add_127 : decode cC_Tok_add 127 = .ok (.ifCond .ne (13), 3) := by decide +kernel
theorem dC_Tok_add_130 : decode cC_Tok_add 130 = .ok (.aload_n 0, 1) := by decide +kernel
theorem dC_Tok_add_131 : decode cC_Tok_add 131 = .ok (.dup, 1) := by decide +kernel
theorem dC_Tok_add_132 : decode cC_Tok_add 132 = .ok (.getfield 9, 3) := by decide +kernel
theorem dC_Tok_add_135 : decode cC_Tok_add 135 = .ok (.iconst (1), 1) := by decide +kernel
theorem dC_Tok_add_136 : decode cC_Tok_add 136 = .ok (.iadd, 1) := by decide +kernel
theorem dC_Tok_add_137 : decode cC_Tok_add 137 = .ok (.putfield 9, 3) := by decide +kernel
theorem dC_Tok_add_140 : decode cC_Tok_add 140 = .ok (.return_, 1) := by decide +kernel
abbrev cC_Row_zero : ByteArray := prog_11_method_6_code
def yC_Row_zero : MethodName := ⟨R_Row, "zero", "(I)V"⟩
theorem dC_Row_zero_0 : decode cC_Row_zero 0 = .ok (.iload_n 1, 1) := by decide +kernel
theorem dC_Row_zero_1 : decode cC_Row_zero 1 = .ok (.aload_n 0, 1) := by decide +kernel
theorem dC_Row_zero_2 : decode cC_Row_zero 2 = .ok (.getfield 13, 3) := by decide +kernel
theorem dC_Row_zero_5 : decode cC_Row_zero 5 = .ok (.arraylength, 1) := by decide +kernel
theorem dC_Row_zero_6 : decode cC_Row_zero 6 = .ok (.if_icmp .le (20), 3) := by decide +kernel
theorem dC_Row_zero_9 : decode cC_Row_zero 9 = .ok (.aload_n 0, 1) := by decide +kernel
theorem dC_Row_zero_10 : decode cC_Row_zero 10 = .ok (.iload_n 1, 1) := by decide +kernel
theorem dC_Row_zero_11 : decode cC_Row_zero 11 = .ok (.iconst (2), 1) := by decide +kernel
theorem dC_Row_zero_12 : decode cC_Row_zero 12 = .ok (.aload_n 0, 1) := by decide +kernel
theorem dC_Row_zero_13 : decode cC_Row_zero 13 = .ok (.getfield 13, 3) := by decide +kernel
theorem dC_Row_zero_16 : decode cC_Row_zero 16 = .ok (.arraylength, 1) := by decide +kernel
theorem dC_Row_zero_17 : decode cC_Row_zero 17 = .ok (.imul, 1) := by decide +kernel
theorem dC_Row_zero_18 : decode cC_Row_zero 18 = .ok (.invokestatic 23, 3) := by decide +kernel
theorem dC_Row_zero_21 : decode cC_Row_zero 21 = .ok (.newarray .int, 2) := by decide +kernel
theorem dC_Row_zero_23 : decode cC_Row_zero 23 = .ok (.putfield 13, 3) := by decide +kernel
theorem dC_Row_zero_26 : decode cC_Row_zero 26 = .ok (.aload_n 0, 1) := by decide +kernel
theorem dC_Row_zero_27 : decode cC_Row_zero 27 = .ok (.iload_n 1, 1) := by decide +kernel
theorem dC_Row_zero_28 : decode cC_Row_zero 28 = .ok (.iconst (0), 1) := by decide +kernel
theorem dC_Row_zero_29 : decode cC_Row_zero 29 = .ok (.invokestatic 23, 3) := by decide +kernel
theorem dC_Row_zero_32 : decode cC_Row_zero 32 = .ok (.putfield 7, 3) := by decide +kernel
theorem dC_Row_zero_35 : decode cC_Row_zero 35 = .ok (.aload_n 0, 1) := by decide +kernel
theorem dC_Row_zero_36 : decode cC_Row_zero 36 = .ok (.getfield 13, 3) := by decide +kernel
theorem dC_Row_zero_39 : decode cC_Row_zero 39 = .ok (.iconst (0), 1) := by decide +kernel
theorem dC_Row_zero_40 : decode cC_Row_zero 40 = .ok (.aload_n 0, 1) := by decide +kernel
theorem dC_Row_zero_41 : decode cC_Row_zero 41 = .ok (.getfield 7, 3) := by decide +kernel
theorem dC_Row_zero_44 : decode cC_Row_zero 44 = .ok (.iconst (0), 1) := by decide +kernel
theorem dC_Row_zero_45 : decode cC_Row_zero 45 = .ok (.invokestatic 29, 3) := by decide +kernel
theorem dC_Row_zero_48 : decode cC_Row_zero 48 = .ok (.return_, 1) := by decide +kernel
section
variable {p : Program} {l : Launch} {e : Env} {s : State} {m : MethodId} {args : Array Value} {below : List Frame} {meth : Method} {c : Code} {D : va_G} {dA : Nat → ClassId} {z : Nat → Nat} {o b i : Nat → Nat} {A : Nat → Prop}
def C_Arr_rangeCheck (x0 : Int32) (x1 : Int32) (x2 : Int32) : Option Int32 :=
  (if x1 ≤ x2 then (if 0 ≤ x1 then (if x2 ≤ x0 then some (0 : Int32) else none) else none) else none)
set_option maxHeartbeats 4000000 in
set_option maxRecDepth 100000 in
theorem bC_Arr_rangeCheck_0  {r : Int32} (C : CxS "java/util/Arrays" p s m args meth c cC_Arr_rangeCheck 3 none) (x0 : Int32) (x1 : Int32) (x2 : Int32) (hM : C_Arr_rangeCheck  x0 x1 x2 = some r) (ls : Array Slot) (hl : lv_has ls 3 [(0, .int x0), (1, .int x1), (2, .int x2)]) : W p l e rm_Arr_rangeCheck s m args below meth c s.heap [] 0 0 (MQ below (QS none) args s 0 0 (fun _ => False)) (F0 m 0 ls []) := by
  have hx := C.1
  have hb := C.2.1
  have hown := C.2.2.2.2.1
  have hT := C.2.2.2.2.2.1
  unfold C_Arr_rangeCheck at hM
  refine lv_iload_n (pc := 0) hx hb dC_Arr_rangeCheck_0 rfl (lv_at hl 1 rfl) ?_
  refine lv_iload_n (pc := 1) hx hb dC_Arr_rangeCheck_1 rfl (lv_at hl 2 rfl) ?_
  refine lv_icmp_le (pc := 2) (tgt := 46) hx hb dC_Arr_rangeCheck_2 (by decide) (fun hc => ?_) (fun hc => ?_)
  · replace hM := it_t hc hM
    refine lv_iload_n (pc := 46) hx hb dC_Arr_rangeCheck_46 rfl (lv_at hl 1 rfl) ?_
    refine lv_if_ge (pc := 47) (tgt := 59) hx hb dC_Arr_rangeCheck_47 (by decide) (fun hc => ?_) (fun hc => ?_)
    · replace hM := it_t hc hM
      refine lv_iload_n (pc := 59) hx hb dC_Arr_rangeCheck_59 rfl (lv_at hl 2 rfl) ?_
      refine lv_iload_n (pc := 60) hx hb dC_Arr_rangeCheck_60 rfl (lv_at hl 0 rfl) ?_
      refine lv_icmp_le (pc := 61) (tgt := 73) hx hb dC_Arr_rangeCheck_61 (by decide) (fun hc => ?_) (fun hc => ?_)
      · replace hM := it_t hc hM
        obtain rfl := sm_i hM
        exact x_retSv (pc := 73) C rfl dC_Arr_rangeCheck_73
      · replace hM := it_f hc hM
        cases hM
    · replace hM := it_f hc hM
      cases hM
  · replace hM := it_f hc hM
    cases hM
theorem kC_Arr_rangeCheck (l : Launch) (x0 : Int32) (x1 : Int32) (x2 : Int32) {r : Int32} (hM : C_Arr_rangeCheck x0 x1 x2 = some r) : KS l yC_Arr_rangeCheck cC_Arr_rangeCheck 3 none rm_Arr_rangeCheck [.int x0, .int x1, .int x2] none := x_enterS (by decide +kernel) (Nat.le_of_ble_eq_true rfl) (fun p e s m args below meth c C ls hl => bC_Arr_rangeCheck_0 C x0 x1 x2 hM ls hl)
def C_Arr_fill_10 (N : Nat)  : Nat → Int32 → Int32 → Int32 → CS → Option (Int32 × CS)
  | 0 => fun _ _ _ _ => none
  | n + 1 => fun x2 x3 x4 sX => (if x2 ≤ x4 then some ((0 : Int32), sX) else gd (inB x4 (sX.2.2 0)) (bnd (cA sX 0 x4.toNatClampNeg x3) (fun sX2 => (C_Arr_fill_10 N  n) x2 x3 (x4 + (1 : Int32)) sX2)))
set_option maxHeartbeats 4000000 in
set_option maxRecDepth 100000 in
theorem bC_Arr_fill_10 (N : Nat)  {r : Int32} {u : CS} (C : CxC "java/util/Arrays" p s m args meth c cC_Arr_fill 5 none D dA z A) : ∀ (n : Nat) (x2 : Int32) (x3 : Int32) (x4 : Int32) (sX : CS) , C_Arr_fill_10 N  n x2 x3 x4 sX = some (r, u) → ∀ (H : Heap) (locs : List Loc) (hW : WdC D A s (w_Arr dA o b sX) H locs) (ls : Array Slot) (hl : lv_has ls 5 [(0, .ref (b 0)), (2, .int x2), (3, .int x3), (4, .int x4)]), W p l e (rmC 1 22 0 0) s m args below meth c H locs 0 0 (MQ below (QC D A (fun Ws' ov => Ws' = (w_Arr dA o b u) ∧ ov = none)) args s 0 0 A) (F0 m 10 ls []) := by
  have hx := C.1.1
  have hb := C.1.2.1
  have hown := C.1.2.2.2.2.1
  have hT := C.1.2.2.2.2.2.1
  intro n
  induction n with
  | zero => intro x2 x3 x4 sX hM; cases hM
  | succ n hrec10 =>
    intro x2 x3 x4 sX hM H locs hW ls hl
    rw [C_Arr_fill_10] at hM
    refine lv_iload (pc := 10) hx hb dC_Arr_fill_10 (lv_at hl 3 rfl) ?_
    refine lv_iload_n (pc := 12) hx hb dC_Arr_fill_12 rfl (lv_at hl 1 rfl) ?_
    refine lv_icmp_ge (pc := 13) (tgt := 27) hx hb dC_Arr_fill_13 (by decide) (fun hc => ?_) (fun hc => ?_)
    · replace hM := it_t hc hM
      obtain ⟨rfl, rfl⟩ := sm_p hM
      exact x_retCv (pc := 27) C rfl hW ⟨rfl, rfl⟩ (Nat.le_refl 0) (Nat.le_refl 0) dC_Arr_fill_27
    · replace hM := it_f hc hM
      refine lv_aload_n (pc := 16) hx hb dC_Arr_fill_16 rfl (lv_at hl 0 rfl) ?_
      refine lv_iload (pc := 17) hx hb dC_Arr_fill_17 (lv_at hl 3 rfl) ?_
      refine lv_iload_n (pc := 19) hx hb dC_Arr_fill_19 rfl (lv_at hl 2 rfl) ?_
      obtain ⟨hg1, hM⟩ := gd_some hM
      refine x_stIC (pc := 20) (Ws' := (w_Arr dA o b (cA sX 0 x4.toNatClampNeg x3))) C hW 0 rfl hg1 rfl dC_Arr_fill_20 (fun H locs hW => ?_)
      obtain ⟨sX2, esX2, hM⟩ := bnd_some hM
      rw [← esX2] at hW
      refine lv_iinc (pc := 21) (v := x4 + (1 : Int32)) (lv' := [(4, .int (x4 + (1 : Int32))), (0, .ref (b 0)), (2, .int x2), (3, .int x3)]) hx hb dC_Arr_fill_21 hl (k := 3) rfl rfl (by decide) rfl (fun ls hl => ?_)
      refine lv_goto (pc := 24) (tgt := 10) hx hb dC_Arr_fill_24 (by decide) ?_
      exact hrec10 _ _ _ _ hM _ _ hW _ (lv_sub hl [1, 2, 3, 0] rfl)
def C_Arr_fill (N : Nat) (x1 : Int32) (x2 : Int32) (x3 : Int32) (sX : CS) : Option (Int32 × CS) :=
  cr (C_Arr_rangeCheck  (nI (sX.2.2 0)) x1 x2) (fun r1 => C_Arr_fill_10 N  N x2 x3 x1 sX)
set_option maxHeartbeats 4000000 in
set_option maxRecDepth 100000 in
theorem bC_Arr_fill_0 (N : Nat)  {r : Int32} {u : CS} (C : CxC "java/util/Arrays" p s m args meth c cC_Arr_fill 5 none D dA z A) (x1 : Int32) (x2 : Int32) (x3 : Int32) (sX : CS) (hM : C_Arr_fill N  x1 x2 x3 sX = some (r, u)) (H : Heap) (locs : List Loc) (hW : WdC D A s (w_Arr dA o b sX) H locs) (ls : Array Slot) (hl : lv_has ls 5 [(0, .ref (b 0)), (1, .int x1), (2, .int x2), (3, .int x3)]) : W p l e (rmC 1 22 0 0) s m args below meth c H locs 0 0 (MQ below (QC D A (fun Ws' ov => Ws' = (w_Arr dA o b u) ∧ ov = none)) args s 0 0 A) (F0 m 0 ls []) := by
  have hx := C.1.1
  have hb := C.1.2.1
  have hown := C.1.2.2.2.2.1
  have hT := C.1.2.2.2.2.2.1
  unfold C_Arr_fill at hM
  refine lv_aload_n (pc := 0) hx hb dC_Arr_fill_0 rfl (lv_at hl 0 rfl) ?_
  refine x_alenC (pc := 1) C hW 0 rfl dC_Arr_fill_1 ?_
  refine lv_iload_n (pc := 2) hx hb dC_Arr_fill_2 rfl (lv_at hl 1 rfl) ?_
  refine lv_iload_n (pc := 3) hx hb dC_Arr_fill_3 rfl (lv_at hl 2 rfl) ?_
  obtain ⟨r1, hr1, hM⟩ := cr_some hM
  refine x_callU (pc := 4) (ov := none) C.1 (kC_Arr_rangeCheck l  (nI (sX.2.2 0)) x1 x2 hr1) qc_616 qc_614 qc_615 qc_4 ⟨by decide, by decide, by decide +kernel⟩ ⟨rfl, rfl⟩ ⟨Nat.le_of_ble_eq_true rfl, Nat.le_of_ble_eq_true rfl⟩ ⟨Nat.le_refl _, Nat.le_refl _⟩ (As := [.int (nI (sX.2.2 0)), .int x1, .int x2]) (n := 3) rfl hl.1 rfl (Nat.le_of_ble_eq_true rfl) dC_Arr_fill_4 ?_
  refine lv_iload_n (pc := 7) hx hb dC_Arr_fill_7 rfl (lv_at hl 1 rfl) ?_
  refine lv_istore (pc := 8) (lv' := [(4, .int x1), (0, .ref (b 0)), (1, .int x1), (2, .int x2), (3, .int x3)]) hx hb dC_Arr_fill_8 hl (by decide) rfl (fun ls hl => ?_)
  exact bC_Arr_fill_10 N  C  N _ _ _ _ hM _ _ hW _ (lv_sub hl [1, 3, 4, 0] rfl)
theorem kC_Arr_fill (l : Launch) (D : va_G) (dA : Nat → ClassId) (z : Nat → Nat) (o b : Nat → Nat) (N : Nat) (x1 : Int32) (x2 : Int32) (x3 : Int32) (sX : CS) {r : Int32} {u : CS} (hM : C_Arr_fill N x1 x2 x3 sX = some (r, u)) : KC l D dA z yC_Arr_fill cC_Arr_fill 5 none 1 22 0 0 (w_Arr dA o b sX) [.ref (b 0), .int x1, .int x2, .int x3] (fun Ws' ov => Ws' = (w_Arr dA o b u) ∧ ov = none) := x_enterC (by decide +kernel) (Nat.le_of_ble_eq_true rfl) (fun p e s m args below meth c A C _ hW ls hl => bC_Arr_fill_0 N C x1 x2 x3 sX hM s.heap [] hW ls hl)
def C_Row_add_32 (x1 : Int32) (sX : CS) : Option ((Int32 × CS) × (Nat × Nat)) :=
  gd (inB (sX.1 0) (sX.2.2 0)) (bnd (cA sX 0 (sX.1 0).toNatClampNeg x1) (fun sX2 => bnd (cF sX2 0 ((sX2.1 0) + (1 : Int32))) (fun sX3 => some (((0 : Int32), sX3), (0, 0)))))
set_option maxHeartbeats 4000000 in
set_option maxRecDepth 100000 in
theorem bC_Row_add_32  {r : Int32} {u : CS} {DC DS : Nat} (C : CxC R_Row p s m args meth c cC_Row_add 2 none D dA z A) (x1 : Int32) (sX : CS) (dc ds kc ks : Nat) (hM : C_Row_add_32  x1 sX = some ((r, u), (dc, ds))) (hdc : kc + dc ≤ DC) (hds : ks + ds ≤ DS) (b : Nat → Nat) (H : Heap) (locs : List Loc) (hW : WdC D A s (w_Row dA o b sX) H locs) (ls : Array Slot) (hl : lv_has ls 2 [(0, .ref (o 0)), (1, .int x1)]) : W p l e (rmC 2 102 DC DS) s m args below meth c H locs kc ks (MQ below (QC D A (fun Ws' ov => ∃ b' : Nat → Nat, Ws' = (w_Row dA o b' u) ∧ ov = none)) args s DC DS A) (F0 m 32 ls []) := by
  have hx := C.1.1
  have hb := C.1.2.1
  have hown := C.1.2.2.2.2.1
  have hT := C.1.2.2.2.2.2.1
  unfold C_Row_add_32 at hM
  refine lv_aload_n (pc := 32) hx hb dC_Row_add_32 rfl (lv_at hl 0 rfl) ?_
  refine x_getC (pc := 33) C hW 0 rfl (ci := 1) rfl i_Row 1 (by decide) qc_57 rfl rfl dC_Row_add_33 ?_
  refine lv_aload_n (pc := 36) hx hb dC_Row_add_36 rfl (lv_at hl 0 rfl) ?_
  refine x_getC (pc := 37) C hW 0 rfl (ci := 1) rfl i_Row 0 (by decide) qc_52 rfl rfl dC_Row_add_37 ?_
  refine lv_iload_n (pc := 40) hx hb dC_Row_add_40 rfl (lv_at hl 1 rfl) ?_
  obtain ⟨hg1, hM⟩ := gd_some hM
  refine x_stIC (pc := 41) (Ws' := (w_Row dA o b (cA sX 0 (sX.1 0).toNatClampNeg x1))) C hW 1 rfl hg1 rfl dC_Row_add_41 (fun H locs hW => ?_)
  obtain ⟨sX2, esX2, hM⟩ := bnd_some hM
  rw [← esX2] at hW
  refine lv_aload_n (pc := 42) hx hb dC_Row_add_42 rfl (lv_at hl 0 rfl) ?_
  refine lv_dup (pc := 43) hx hb dC_Row_add_43 rfl ?_
  refine x_getC (pc := 44) C hW 0 rfl (ci := 1) rfl i_Row 0 (by decide) qc_52 rfl rfl dC_Row_add_44 ?_
  refine lv_iconst (pc := 47) (v := 1) hx hb dC_Row_add_47 (by decide) ?_
  refine lv_iadd (pc := 48) hx hb dC_Row_add_48 ?_
  refine x_putC (pc := 49) (ty := .int) (Ws' := (w_Row dA o b (cF sX2 0 ((sX2.1 0) + (1 : Int32))))) C hW 0 rfl (ci := 1) rfl i_Row tok_Row n_Row 0 (by decide) qc_52 rfl rfl (by decide +kernel) rfl rfl (Nat.le_of_ble_eq_true rfl) rfl dC_Row_add_49 (fun H locs hW => ?_)
  obtain ⟨sX3, esX3, hM⟩ := bnd_some hM
  rw [← esX3] at hW
  obtain ⟨rfl, rfl, rfl, rfl⟩ := sm_q hM
  exact x_retCv (pc := 52) C rfl hW ⟨_, rfl, rfl⟩ (by omega) (by omega) dC_Row_add_52
def C_Row_add (x1 : Int32) (sX : CS) : Option ((Int32 × CS) × (Nat × Nat)) :=
  (if (sX.1 0) < (nI (sX.2.2 0)) then C_Row_add_32  x1 sX else ct (C_copyOf (((2 : Int32) * (sX.1 0)) + (64 : Int32)) (sX.2.2 0) (sX.2.1 0)) (fun r1 f2 => bnd (cB sX 0 (((2 : Int32) * (sX.1 0)) + (64 : Int32)).toNatClampNeg f2) (fun sX8 => C_Row_add_32  x1 sX8)))
set_option maxHeartbeats 4000000 in
set_option maxRecDepth 100000 in
theorem bC_Row_add_0  {r : Int32} {u : CS} {DC DS : Nat} (C : CxC R_Row p s m args meth c cC_Row_add 2 none D dA z A) (x1 : Int32) (sX : CS) (dc ds kc ks : Nat) (hM : C_Row_add  x1 sX = some ((r, u), (dc, ds))) (hdc : kc + dc ≤ DC) (hds : ks + ds ≤ DS) (b : Nat → Nat) (H : Heap) (locs : List Loc) (hW : WdC D A s (w_Row dA o b sX) H locs) (ls : Array Slot) (hl : lv_has ls 2 [(0, .ref (o 0)), (1, .int x1)]) : W p l e (rmC 2 102 DC DS) s m args below meth c H locs kc ks (MQ below (QC D A (fun Ws' ov => ∃ b' : Nat → Nat, Ws' = (w_Row dA o b' u) ∧ ov = none)) args s DC DS A) (F0 m 0 ls []) := by
  have hx := C.1.1
  have hb := C.1.2.1
  have hown := C.1.2.2.2.2.1
  have hT := C.1.2.2.2.2.2.1
  unfold C_Row_add at hM
  refine lv_aload_n (pc := 0) hx hb dC_Row_add_0 rfl (lv_at hl 0 rfl) ?_
  refine x_getC (pc := 1) C hW 0 rfl (ci := 1) rfl i_Row 0 (by decide) qc_52 rfl rfl dC_Row_add_1 ?_
  refine lv_aload_n (pc := 4) hx hb dC_Row_add_4 rfl (lv_at hl 0 rfl) ?_
  refine x_getC (pc := 5) C hW 0 rfl (ci := 1) rfl i_Row 1 (by decide) qc_57 rfl rfl dC_Row_add_5 ?_
  refine x_alenC (pc := 8) C hW 1 rfl dC_Row_add_8 ?_
  refine lv_icmp_lt (pc := 9) (tgt := 32) hx hb dC_Row_add_9 (by decide) (fun hc => ?_) (fun hc => ?_)
  · replace hM := it_t hc hM
    exact bC_Row_add_32  C  _ _ _ _ _ _ hM (by omega) (by omega) _ _ _ hW _ (lv_sub hl [0, 1] rfl)
  · replace hM := it_f hc hM
    refine lv_aload_n (pc := 12) hx hb dC_Row_add_12 rfl (lv_at hl 0 rfl) ?_
    refine lv_aload_n (pc := 13) hx hb dC_Row_add_13 rfl (lv_at hl 0 rfl) ?_
    refine x_getC (pc := 14) C hW 0 rfl (ci := 1) rfl i_Row 1 (by decide) qc_57 rfl rfl dC_Row_add_14 ?_
    refine lv_iconst (pc := 17) (v := 2) hx hb dC_Row_add_17 (by decide) ?_
    refine lv_aload_n (pc := 18) hx hb dC_Row_add_18 rfl (lv_at hl 0 rfl) ?_
    refine x_getC (pc := 19) C hW 0 rfl (ci := 1) rfl i_Row 0 (by decide) qc_52 rfl rfl dC_Row_add_19 ?_
    refine lv_imul (pc := 22) hx hb dC_Row_add_22 ?_
    refine lv_bipush (pc := 23) (v := 64) hx hb dC_Row_add_23 (by decide) ?_
    refine lv_iadd (pc := 25) hx hb dC_Row_add_25 ?_
    obtain ⟨r1, f2, da3, ea4, db5, eb6, hr1, hM, hqda3, hpda3⟩ := ct_some hM
    refine x_callT (pc := 26) (n' := 2) C hW (kC_copyOf l D dA z (b 0) (((2 : Int32) * (sX.1 0)) + (64 : Int32)) _ _ hr1) [1, 0] rfl (by decide +kernel) rfl qc_78 qc_76 qc_77 qc_4 ⟨by decide, by decide, by decide +kernel⟩ ⟨Nat.le_of_ble_eq_true rfl, Nat.le_of_ble_eq_true rfl⟩ ⟨show _ + da3 ≤ DC by omega, show _ + ea4 ≤ DS by omega⟩ (As := [.ref (b 0), .int (((2 : Int32) * (sX.1 0)) + (64 : Int32))]) (n := 2) rfl hl.1 rfl (Nat.le_of_ble_eq_true rfl) dC_Row_add_26 (fun Wc' ov H locs hPo hWn => ?_)
    obtain ⟨q7, rfl, rfl⟩ := hPo
    have hW := hWn [[(o 0, .inr (1, [.int (sX.1 0), .ref (b 0)]))], [(b 0, .inl (dA 2, sX.2.2 0, .inl (sX.2.1 0))), (q7, .inl (dA 2, (((2 : Int32) * (sX.1 0)) + (64 : Int32)).toNatClampNeg, .inl f2))]] rfl rfl
    refine x_putC (pc := 29) (ty := .array .int) (v := .ref q7) (Ws' := [[(o 0, .inr (1, [.int (sX.1 0), .ref q7]))], [(b 0, .inl (dA 2, sX.2.2 0, .inl (sX.2.1 0))), (q7, .inl (dA 2, (((2 : Int32) * (sX.1 0)) + (64 : Int32)).toNatClampNeg, .inl f2))]]) C hW 0 rfl (ci := 1) rfl i_Row tok_Row n_Row 1 (by decide) qc_57 rfl rfl (by decide +kernel) rfl rfl (Nat.le_of_ble_eq_true rfl) rfl dC_Row_add_29 (fun H locs hW => ?_)
    have hW := WdC.drop (Ws' := (w_Row dA o (uN b 0 q7) (cB sX 0 (((2 : Int32) * (sX.1 0)) + (64 : Int32)).toNatClampNeg f2))) hW 1 rfl
    generalize uN b 0 q7 = b at hW
    obtain ⟨sX8, esX8, hM⟩ := bnd_some hM
    rw [← esX8] at hW
    exact bC_Row_add_32  C  _ _ _ _ _ _ hM (by omega) (by omega) _ _ _ hW _ (lv_sub hl [0, 1] rfl)
theorem kC_Row_add (l : Launch) (D : va_G) (dA : Nat → ClassId) (z : Nat → Nat) (o b : Nat → Nat) (x1 : Int32) (sX : CS) {r : Int32} {u : CS} {dc ds : Nat} (hM : C_Row_add x1 sX = some ((r, u), (dc, ds))) : KC l D dA z yC_Row_add cC_Row_add 2 none 2 102 dc ds (w_Row dA o b sX) [.ref (o 0), .int x1] (fun Ws' ov => ∃ b' : Nat → Nat, Ws' = (w_Row dA o b' u) ∧ ov = none) := x_enterC (by decide +kernel) (Nat.le_of_ble_eq_true rfl) (fun p e s m args below meth c A C _ hW ls hl => bC_Row_add_0 C x1 sX dc ds 0 0 hM (by omega) (by omega) b s.heap [] hW ls hl)
def C_Row_fill_27 (N : Nat)  (sX : CS) : Option (Int32 × CS) :=
  some ((0 : Int32), sX)
set_option maxHeartbeats 4000000 in
set_option maxRecDepth 100000 in
theorem bC_Row_fill_27 (N : Nat)  {r : Int32} {u : CS} (C : CxC R_Row p s m args meth c cC_Row_fill 4 none D dA z A)  (sX : CS) (hM : C_Row_fill_27 N   sX = some (r, u)) (H : Heap) (locs : List Loc) (hW : WdC D A s (w_Row dA o b sX) H locs) (ls : Array Slot) (hl : lv_has ls 4 []) : W p l e (rmC 2 46 0 0) s m args below meth c H locs 0 0 (MQ below (QC D A (fun Ws' ov => Ws' = (w_Row dA o b u) ∧ ov = none)) args s 0 0 A) (F0 m 27 ls []) := by
  have hx := C.1.1
  have hb := C.1.2.1
  have hown := C.1.2.2.2.2.1
  have hT := C.1.2.2.2.2.2.1
  unfold C_Row_fill_27 at hM
  obtain ⟨rfl, rfl⟩ := sm_p hM
  exact x_retCv (pc := 27) C rfl hW ⟨rfl, rfl⟩ (Nat.le_refl 0) (Nat.le_refl 0) dC_Row_fill_27
def C_Row_fill (N : Nat) (x1 : Int32) (x2 : Int32) (x3 : Int32) (sX : CS) : Option (Int32 × CS) :=
  (if x1 < 0 then C_Row_fill_27 N  sX else (if x2 < x1 then C_Row_fill_27 N  sX else (if (sX.1 0) < x2 then C_Row_fill_27 N  sX else cl (C_Arr_fill N x1 x2 x3 (ag sX 0)) (fun r1 u2 => bnd (aset sX 0 u2) (fun sX3 => C_Row_fill_27 N  sX3)))))
set_option maxHeartbeats 4000000 in
set_option maxRecDepth 100000 in
theorem bC_Row_fill_0 (N : Nat)  {r : Int32} {u : CS} (C : CxC R_Row p s m args meth c cC_Row_fill 4 none D dA z A) (x1 : Int32) (x2 : Int32) (x3 : Int32) (sX : CS) (hM : C_Row_fill N  x1 x2 x3 sX = some (r, u)) (H : Heap) (locs : List Loc) (hW : WdC D A s (w_Row dA o b sX) H locs) (ls : Array Slot) (hl : lv_has ls 4 [(0, .ref (o 0)), (1, .int x1), (2, .int x2), (3, .int x3)]) : W p l e (rmC 2 46 0 0) s m args below meth c H locs 0 0 (MQ below (QC D A (fun Ws' ov => Ws' = (w_Row dA o b u) ∧ ov = none)) args s 0 0 A) (F0 m 0 ls []) := by
  have hx := C.1.1
  have hb := C.1.2.1
  have hown := C.1.2.2.2.2.1
  have hT := C.1.2.2.2.2.2.1
  unfold C_Row_fill at hM
  refine lv_iload_n (pc := 0) hx hb dC_Row_fill_0 rfl (lv_at hl 1 rfl) ?_
  refine lv_if_lt (pc := 1) (tgt := 27) hx hb dC_Row_fill_1 (by decide) (fun hc => ?_) (fun hc => ?_)
  · replace hM := it_t hc hM
    exact bC_Row_fill_27 N  C  _ hM _ _ hW _ (lv_sub hl [] rfl)
  · replace hM := it_f hc hM
    refine lv_iload_n (pc := 4) hx hb dC_Row_fill_4 rfl (lv_at hl 1 rfl) ?_
    refine lv_iload_n (pc := 5) hx hb dC_Row_fill_5 rfl (lv_at hl 2 rfl) ?_
    refine lv_icmp_gt (pc := 6) (tgt := 27) hx hb dC_Row_fill_6 (by decide) (fun hc => ?_) (fun hc => ?_)
    · replace hM := it_t hc hM
      exact bC_Row_fill_27 N  C  _ hM _ _ hW _ (lv_sub hl [] rfl)
    · replace hM := it_f hc hM
      refine lv_iload_n (pc := 9) hx hb dC_Row_fill_9 rfl (lv_at hl 2 rfl) ?_
      refine lv_aload_n (pc := 10) hx hb dC_Row_fill_10 rfl (lv_at hl 0 rfl) ?_
      refine x_getC (pc := 11) C hW 0 rfl (ci := 1) rfl i_Row 0 (by decide) qc_52 rfl rfl dC_Row_fill_11 ?_
      refine lv_icmp_gt (pc := 14) (tgt := 27) hx hb dC_Row_fill_14 (by decide) (fun hc => ?_) (fun hc => ?_)
      · replace hM := it_t hc hM
        exact bC_Row_fill_27 N  C  _ hM _ _ hW _ (lv_sub hl [] rfl)
      · replace hM := it_f hc hM
        refine lv_aload_n (pc := 17) hx hb dC_Row_fill_17 rfl (lv_at hl 0 rfl) ?_
        refine x_getC (pc := 18) C hW 0 rfl (ci := 1) rfl i_Row 1 (by decide) qc_57 rfl rfl dC_Row_fill_18 ?_
        refine lv_iload_n (pc := 21) hx hb dC_Row_fill_21 rfl (lv_at hl 1 rfl) ?_
        refine lv_iload_n (pc := 22) hx hb dC_Row_fill_22 rfl (lv_at hl 2 rfl) ?_
        refine lv_iload_n (pc := 23) hx hb dC_Row_fill_23 rfl (lv_at hl 3 rfl) ?_
        obtain ⟨r1, u2, hr1, hM⟩ := cl_some hM
        refine x_callT (pc := 24) (n' := 2) C hW (kC_Arr_fill l D dA z o (fun _ => b 0) N x1 x2 x3 (ag sX 0) hr1) [1, 0] rfl (by decide +kernel) rfl qc_613 qc_611 qc_612 qc_4 ⟨by decide, by decide, by decide +kernel⟩ ⟨Nat.le_of_ble_eq_true rfl, Nat.le_of_ble_eq_true rfl⟩ ⟨Nat.le_refl _, Nat.le_refl _⟩ (As := [.ref (b 0), .int x1, .int x2, .int x3]) (n := 4) rfl hl.1 rfl (Nat.le_of_ble_eq_true rfl) dC_Row_fill_24 (fun Wc' ov H locs hPo hWn => ?_)
        obtain ⟨rfl, rfl⟩ := hPo
        have hW := hWn (w_Row dA o b (aset sX 0 u2)) rfl rfl
        obtain ⟨sX3, esX3, hM⟩ := bnd_some hM
        rw [← esX3] at hW
        exact bC_Row_fill_27 N  C  _ hM _ _ hW _ (lv_sub hl [] rfl)
theorem kC_Row_fill (l : Launch) (D : va_G) (dA : Nat → ClassId) (z : Nat → Nat) (o b : Nat → Nat) (N : Nat) (x1 : Int32) (x2 : Int32) (x3 : Int32) (sX : CS) {r : Int32} {u : CS} (hM : C_Row_fill N x1 x2 x3 sX = some (r, u)) : KC l D dA z yC_Row_fill cC_Row_fill 4 none 2 46 0 0 (w_Row dA o b sX) [.ref (o 0), .int x1, .int x2, .int x3] (fun Ws' ov => Ws' = (w_Row dA o b u) ∧ ov = none) := x_enterC (by decide +kernel) (Nat.le_of_ble_eq_true rfl) (fun p e s m args below meth c A C _ hW ls hl => bC_Row_fill_0 N C x1 x2 x3 sX hM s.heap [] hW ls hl)
def C_Tok_add_140  (sT : CS) : Option ((Int32 × CS) × (Nat × Nat)) :=
  some (((0 : Int32), sT), (0, 0))
set_option maxHeartbeats 4000000 in
set_option maxRecDepth 100000 in
theorem bC_Tok_add_140  {r : Int32} {u : CS} {DC DS : Nat} (C : CxC R_Tok p s m args meth c cC_Tok_add 5 none D dA z A)  (sT : CS) (dc ds kc ks : Nat) (hM : C_Tok_add_140   sT = some ((r, u), (dc, ds))) (hdc : kc + dc ≤ DC) (hds : ks + ds ≤ DS) (b : Nat → Nat) (H : Heap) (locs : List Loc) (hW : WdC D A s (w_Tok dA o b sT) H locs) (ls : Array Slot) (hl : lv_has ls 5 []) : W p l e (rmC 2 102 DC DS) s m args below meth c H locs kc ks (MQ below (QC D A (fun Ws' ov => ∃ b' : Nat → Nat, Ws' = (w_Tok dA o b' u) ∧ ov = none)) args s DC DS A) (F0 m 140 ls []) := by
  have hx := C.1.1
  have hb := C.1.2.1
  have hown := C.1.2.2.2.2.1
  have hT := C.1.2.2.2.2.2.1
  unfold C_Tok_add_140 at hM
  obtain ⟨rfl, rfl, rfl, rfl⟩ := sm_q hM
  exact x_retCv (pc := 140) C rfl hW ⟨_, rfl, rfl⟩ (by omega) (by omega) dC_Tok_add_140
def C_Tok_add_86 (x1 : Int32) (x2 : Int32) (x3 : Int32) (sT : CS) : Option ((Int32 × CS) × (Nat × Nat)) :=
  gd (inB (sT.1 1) (sT.2.2 0)) (bnd (cA sT 0 (sT.1 1).toNatClampNeg x1) (fun sT2 => gd (inB (sT2.1 1) (sT2.2.2 1)) (bnd (cA sT2 1 (sT2.1 1).toNatClampNeg x2) (fun sT4 => gd (inB (sT4.1 1) (sT4.2.2 2)) (bnd (cA sT4 2 (sT4.1 1).toNatClampNeg x3) (fun sT6 => bnd (cF sT6 1 ((sT6.1 1) + (1 : Int32))) (fun sT7 => (if x1 = 0 then bnd (cF sT7 0 ((sT7.1 0) + (1 : Int32))) (fun sT8 => C_Tok_add_140  sT8) else C_Tok_add_140  sT7))))))))
set_option maxHeartbeats 4000000 in
set_option maxRecDepth 100000 in
theorem bC_Tok_add_86  {r : Int32} {u : CS} {DC DS : Nat} (C : CxC R_Tok p s m args meth c cC_Tok_add 5 none D dA z A) (x1 : Int32) (x2 : Int32) (x3 : Int32) (sT : CS) (dc ds kc ks : Nat) (hM : C_Tok_add_86  x1 x2 x3 sT = some ((r, u), (dc, ds))) (hdc : kc + dc ≤ DC) (hds : ks + ds ≤ DS) (b : Nat → Nat) (H : Heap) (locs : List Loc) (hW : WdC D A s (w_Tok dA o b sT) H locs) (ls : Array Slot) (hl : lv_has ls 5 [(0, .ref (o 32)), (1, .int x1), (2, .int x2), (3, .int x3)]) : W p l e (rmC 2 102 DC DS) s m args below meth c H locs kc ks (MQ below (QC D A (fun Ws' ov => ∃ b' : Nat → Nat, Ws' = (w_Tok dA o b' u) ∧ ov = none)) args s DC DS A) (F0 m 86 ls []) := by
  have hx := C.1.1
  have hb := C.1.2.1
  have hown := C.1.2.2.2.2.1
  have hT := C.1.2.2.2.2.2.1
  unfold C_Tok_add_86 at hM
  refine lv_aload_n (pc := 86) hx hb dC_Tok_add_86 rfl (lv_at hl 0 rfl) ?_
  refine x_getC (pc := 87) C hW 0 rfl (ci := 3) rfl i_Tok 3 (by decide) qc_280 rfl rfl dC_Tok_add_87 ?_
  refine lv_aload_n (pc := 90) hx hb dC_Tok_add_90 rfl (lv_at hl 0 rfl) ?_
  refine x_getC (pc := 91) C hW 0 rfl (ci := 3) rfl i_Tok 1 (by decide) qc_278 rfl rfl dC_Tok_add_91 ?_
  refine lv_iload_n (pc := 94) hx hb dC_Tok_add_94 rfl (lv_at hl 1 rfl) ?_
  obtain ⟨hg1, hM⟩ := gd_some hM
  refine x_stIC (pc := 95) (Ws' := (w_Tok dA o b (cA sT 0 (sT.1 1).toNatClampNeg x1))) C hW 1 rfl hg1 rfl dC_Tok_add_95 (fun H locs hW => ?_)
  obtain ⟨sT2, esT2, hM⟩ := bnd_some hM
  rw [← esT2] at hW
  refine lv_aload_n (pc := 96) hx hb dC_Tok_add_96 rfl (lv_at hl 0 rfl) ?_
  refine x_getC (pc := 97) C hW 0 rfl (ci := 3) rfl i_Tok 4 (by decide) qc_281 rfl rfl dC_Tok_add_97 ?_
  refine lv_aload_n (pc := 100) hx hb dC_Tok_add_100 rfl (lv_at hl 0 rfl) ?_
  refine x_getC (pc := 101) C hW 0 rfl (ci := 3) rfl i_Tok 1 (by decide) qc_278 rfl rfl dC_Tok_add_101 ?_
  refine lv_iload_n (pc := 104) hx hb dC_Tok_add_104 rfl (lv_at hl 2 rfl) ?_
  obtain ⟨hg3, hM⟩ := gd_some hM
  refine x_stIC (pc := 105) (Ws' := (w_Tok dA o b (cA sT2 1 (sT2.1 1).toNatClampNeg x2))) C hW 2 rfl hg3 rfl dC_Tok_add_105 (fun H locs hW => ?_)
  obtain ⟨sT4, esT4, hM⟩ := bnd_some hM
  rw [← esT4] at hW
  refine lv_aload_n (pc := 106) hx hb dC_Tok_add_106 rfl (lv_at hl 0 rfl) ?_
  refine x_getC (pc := 107) C hW 0 rfl (ci := 3) rfl i_Tok 5 (by decide) qc_282 rfl rfl dC_Tok_add_107 ?_
  refine lv_aload_n (pc := 110) hx hb dC_Tok_add_110 rfl (lv_at hl 0 rfl) ?_
  refine x_getC (pc := 111) C hW 0 rfl (ci := 3) rfl i_Tok 1 (by decide) qc_278 rfl rfl dC_Tok_add_111 ?_
  refine lv_iload_n (pc := 114) hx hb dC_Tok_add_114 rfl (lv_at hl 3 rfl) ?_
  obtain ⟨hg5, hM⟩ := gd_some hM
  refine x_stIC (pc := 115) (Ws' := (w_Tok dA o b (cA sT4 2 (sT4.1 1).toNatClampNeg x3))) C hW 3 rfl hg5 rfl dC_Tok_add_115 (fun H locs hW => ?_)
  obtain ⟨sT6, esT6, hM⟩ := bnd_some hM
  rw [← esT6] at hW
  refine lv_aload_n (pc := 116) hx hb dC_Tok_add_116 rfl (lv_at hl 0 rfl) ?_
  refine lv_dup (pc := 117) hx hb dC_Tok_add_117 rfl ?_
  refine x_getC (pc := 118) C hW 0 rfl (ci := 3) rfl i_Tok 1 (by decide) qc_278 rfl rfl dC_Tok_add_118 ?_
  refine lv_iconst (pc := 121) (v := 1) hx hb dC_Tok_add_121 (by decide) ?_
  refine lv_iadd (pc := 122) hx hb dC_Tok_add_122 ?_
  refine x_putC (pc := 123) (ty := .int) (Ws' := (w_Tok dA o b (cF sT6 1 ((sT6.1 1) + (1 : Int32))))) C hW 0 rfl (ci := 3) rfl i_Tok tok_Tok n_Tok 1 (by decide) qc_278 rfl rfl (by decide +kernel) rfl rfl (Nat.le_of_ble_eq_true rfl) rfl dC_Tok_add_123 (fun H locs hW => ?_)
  obtain ⟨sT7, esT7, hM⟩ := bnd_some hM
  rw [← esT7] at hW
  refine lv_iload_n (pc := 126) hx hb dC_Tok_add_126 rfl (lv_at hl 1 rfl) ?_
  refine lv_if_ne (pc := 127) (tgt := 140) hx hb dC_Tok_add_127 (by decide) (fun hc => ?_) (fun hc => ?_)
  · replace hM := it_f hc hM
    exact bC_Tok_add_140  C  _ _ _ _ _ hM (by omega) (by omega) _ _ _ hW _ (lv_sub hl [] rfl)
  · replace hM := it_t hc hM
    refine lv_aload_n (pc := 130) hx hb dC_Tok_add_130 rfl (lv_at hl 0 rfl) ?_
    refine lv_dup (pc := 131) hx hb dC_Tok_add_131 rfl ?_
    refine x_getC (pc := 132) C hW 0 rfl (ci := 3) rfl i_Tok 0 (by decide) qc_276 rfl rfl dC_Tok_add_132 ?_
    refine lv_iconst (pc := 135) (v := 1) hx hb dC_Tok_add_135 (by decide) ?_
    refine lv_iadd (pc := 136) hx hb dC_Tok_add_136 ?_
    refine x_putC (pc := 137) (ty := .int) (Ws' := (w_Tok dA o b (cF sT7 0 ((sT7.1 0) + (1 : Int32))))) C hW 0 rfl (ci := 3) rfl i_Tok tok_Tok n_Tok 0 (by decide) qc_276 rfl rfl (by decide +kernel) rfl rfl (Nat.le_of_ble_eq_true rfl) rfl dC_Tok_add_137 (fun H locs hW => ?_)
    obtain ⟨sT8, esT8, hM⟩ := bnd_some hM
    rw [← esT8] at hW
    exact bC_Tok_add_140  C  _ _ _ _ _ hM (by omega) (by omega) _ _ _ hW _ (lv_sub hl [] rfl)
def C_Tok_add_36 (x1 : Int32) (x2 : Int32) (x3 : Int32) (sT : CS) : Option ((Int32 × CS) × (Nat × Nat)) :=
  ct (C_copyOf (((2 : Int32) * (sT.1 1)) + (64 : Int32)) (sT.2.2 0) (sT.2.1 0)) (fun r1 f2 => bnd (cB sT 0 (((2 : Int32) * (sT.1 1)) + (64 : Int32)).toNatClampNeg f2) (fun sT8 => ct (C_copyOf (((2 : Int32) * (sT.1 1)) + (64 : Int32)) (sT8.2.2 1) (sT8.2.1 1)) (fun r9 f10 => bnd (cB sT8 1 (((2 : Int32) * (sT.1 1)) + (64 : Int32)).toNatClampNeg f10) (fun sT16 => ct (C_copyOf (((2 : Int32) * (sT.1 1)) + (64 : Int32)) (sT16.2.2 2) (sT16.2.1 2)) (fun r17 f18 => bnd (cB sT16 2 (((2 : Int32) * (sT.1 1)) + (64 : Int32)).toNatClampNeg f18) (fun sT24 => C_Tok_add_86  x1 x2 x3 sT24))))))
set_option maxHeartbeats 4000000 in
set_option maxRecDepth 100000 in
theorem bC_Tok_add_36  {r : Int32} {u : CS} {DC DS : Nat} (C : CxC R_Tok p s m args meth c cC_Tok_add 5 none D dA z A) (x1 : Int32) (x2 : Int32) (x3 : Int32) (sT : CS) (dc ds kc ks : Nat) (hM : C_Tok_add_36  x1 x2 x3 sT = some ((r, u), (dc, ds))) (hdc : kc + dc ≤ DC) (hds : ks + ds ≤ DS) (b : Nat → Nat) (H : Heap) (locs : List Loc) (hW : WdC D A s (w_Tok dA o b sT) H locs) (ls : Array Slot) (hl : lv_has ls 5 [(0, .ref (o 32)), (1, .int x1), (2, .int x2), (3, .int x3)]) : W p l e (rmC 2 102 DC DS) s m args below meth c H locs kc ks (MQ below (QC D A (fun Ws' ov => ∃ b' : Nat → Nat, Ws' = (w_Tok dA o b' u) ∧ ov = none)) args s DC DS A) (F0 m 36 ls []) := by
  have hx := C.1.1
  have hb := C.1.2.1
  have hown := C.1.2.2.2.2.1
  have hT := C.1.2.2.2.2.2.1
  unfold C_Tok_add_36 at hM
  refine lv_iconst (pc := 36) (v := 2) hx hb dC_Tok_add_36 (by decide) ?_
  refine lv_aload_n (pc := 37) hx hb dC_Tok_add_37 rfl (lv_at hl 0 rfl) ?_
  refine x_getC (pc := 38) C hW 0 rfl (ci := 3) rfl i_Tok 1 (by decide) qc_278 rfl rfl dC_Tok_add_38 ?_
  refine lv_imul (pc := 41) hx hb dC_Tok_add_41 ?_
  refine lv_bipush (pc := 42) (v := 64) hx hb dC_Tok_add_42 (by decide) ?_
  refine lv_iadd (pc := 44) hx hb dC_Tok_add_44 ?_
  refine lv_istore (pc := 45) (lv' := [(4, .int (((2 : Int32) * (sT.1 1)) + (64 : Int32))), (0, .ref (o 32)), (1, .int x1), (2, .int x2), (3, .int x3)]) hx hb dC_Tok_add_45 hl (by decide) rfl (fun ls hl => ?_)
  refine lv_aload_n (pc := 47) hx hb dC_Tok_add_47 rfl (lv_at hl 1 rfl) ?_
  refine lv_aload_n (pc := 48) hx hb dC_Tok_add_48 rfl (lv_at hl 1 rfl) ?_
  refine x_getC (pc := 49) C hW 0 rfl (ci := 3) rfl i_Tok 3 (by decide) qc_280 rfl rfl dC_Tok_add_49 ?_
  refine lv_iload (pc := 52) hx hb dC_Tok_add_52 (lv_at hl 0 rfl) ?_
  obtain ⟨r1, f2, da3, ea4, db5, eb6, hr1, hM, hqda3, hpda3⟩ := ct_some hM
  refine x_callT (pc := 54) (n' := 4) C hW (kC_copyOf l D dA z (b 32) (((2 : Int32) * (sT.1 1)) + (64 : Int32)) _ _ hr1) [1, 0, 2, 3] rfl (by decide +kernel) rfl qc_78 qc_1043 qc_77 qc_4 ⟨by decide, by decide, by decide +kernel⟩ ⟨Nat.le_of_ble_eq_true rfl, Nat.le_of_ble_eq_true rfl⟩ ⟨show _ + da3 ≤ DC by omega, show _ + ea4 ≤ DS by omega⟩ (As := [.ref (b 32), .int (((2 : Int32) * (sT.1 1)) + (64 : Int32))]) (n := 2) rfl hl.1 rfl (Nat.le_of_ble_eq_true rfl) dC_Tok_add_54 (fun Wc' ov H locs hPo hWn => ?_)
  obtain ⟨q7, rfl, rfl⟩ := hPo
  have hW := hWn [[(o 32, .inr (3, [.int (sT.1 0), .int (sT.1 1), .int (sT.1 2), .ref (b 32), .ref (b 33), .ref (b 34)]))], [(b 32, .inl (dA 2, sT.2.2 0, .inl (sT.2.1 0))), (q7, .inl (dA 2, (((2 : Int32) * (sT.1 1)) + (64 : Int32)).toNatClampNeg, .inl f2))], [(b 33, .inl (dA 2, sT.2.2 1, .inl (sT.2.1 1)))], [(b 34, .inl (dA 2, sT.2.2 2, .inl (sT.2.1 2)))]] rfl rfl
  refine x_putC (pc := 57) (ty := .array .int) (v := .ref q7) (Ws' := [[(o 32, .inr (3, [.int (sT.1 0), .int (sT.1 1), .int (sT.1 2), .ref q7, .ref (b 33), .ref (b 34)]))], [(b 32, .inl (dA 2, sT.2.2 0, .inl (sT.2.1 0))), (q7, .inl (dA 2, (((2 : Int32) * (sT.1 1)) + (64 : Int32)).toNatClampNeg, .inl f2))], [(b 33, .inl (dA 2, sT.2.2 1, .inl (sT.2.1 1)))], [(b 34, .inl (dA 2, sT.2.2 2, .inl (sT.2.1 2)))]]) C hW 0 rfl (ci := 3) rfl i_Tok tok_Tok n_Tok 3 (by decide) qc_280 rfl rfl (by decide +kernel) rfl rfl (Nat.le_of_ble_eq_true rfl) rfl dC_Tok_add_57 (fun H locs hW => ?_)
  have hW := WdC.drop (Ws' := (w_Tok dA o (uN b 32 q7) (cB sT 0 (((2 : Int32) * (sT.1 1)) + (64 : Int32)).toNatClampNeg f2))) hW 1 rfl
  generalize uN b 32 q7 = b at hW
  obtain ⟨sT8, esT8, hM⟩ := bnd_some hM
  rw [← esT8] at hW
  refine lv_aload_n (pc := 60) hx hb dC_Tok_add_60 rfl (lv_at hl 1 rfl) ?_
  refine lv_aload_n (pc := 61) hx hb dC_Tok_add_61 rfl (lv_at hl 1 rfl) ?_
  refine x_getC (pc := 62) C hW 0 rfl (ci := 3) rfl i_Tok 4 (by decide) qc_281 rfl rfl dC_Tok_add_62 ?_
  refine lv_iload (pc := 65) hx hb dC_Tok_add_65 (lv_at hl 0 rfl) ?_
  obtain ⟨r9, f10, da11, ea12, db13, eb14, hr9, hM, hqda11, hpda11⟩ := ct_some hM
  refine x_callT (pc := 67) (n' := 4) C hW (kC_copyOf l D dA z (b 33) (((2 : Int32) * (sT.1 1)) + (64 : Int32)) _ _ hr9) [2, 0, 1, 3] rfl (by decide +kernel) rfl qc_78 qc_1043 qc_77 qc_4 ⟨by decide, by decide, by decide +kernel⟩ ⟨Nat.le_of_ble_eq_true rfl, Nat.le_of_ble_eq_true rfl⟩ ⟨show _ + da11 ≤ DC by omega, show _ + ea12 ≤ DS by omega⟩ (As := [.ref (b 33), .int (((2 : Int32) * (sT.1 1)) + (64 : Int32))]) (n := 2) rfl hl.1 rfl (Nat.le_of_ble_eq_true rfl) dC_Tok_add_67 (fun Wc' ov H locs hPo hWn => ?_)
  obtain ⟨q15, rfl, rfl⟩ := hPo
  have hW := hWn [[(o 32, .inr (3, [.int (sT8.1 0), .int (sT8.1 1), .int (sT8.1 2), .ref (b 32), .ref (b 33), .ref (b 34)]))], [(b 32, .inl (dA 2, sT8.2.2 0, .inl (sT8.2.1 0)))], [(b 33, .inl (dA 2, sT8.2.2 1, .inl (sT8.2.1 1))), (q15, .inl (dA 2, (((2 : Int32) * (sT.1 1)) + (64 : Int32)).toNatClampNeg, .inl f10))], [(b 34, .inl (dA 2, sT8.2.2 2, .inl (sT8.2.1 2)))]] rfl rfl
  refine x_putC (pc := 70) (ty := .array .int) (v := .ref q15) (Ws' := [[(o 32, .inr (3, [.int (sT8.1 0), .int (sT8.1 1), .int (sT8.1 2), .ref (b 32), .ref q15, .ref (b 34)]))], [(b 32, .inl (dA 2, sT8.2.2 0, .inl (sT8.2.1 0)))], [(b 33, .inl (dA 2, sT8.2.2 1, .inl (sT8.2.1 1))), (q15, .inl (dA 2, (((2 : Int32) * (sT.1 1)) + (64 : Int32)).toNatClampNeg, .inl f10))], [(b 34, .inl (dA 2, sT8.2.2 2, .inl (sT8.2.1 2)))]]) C hW 0 rfl (ci := 3) rfl i_Tok tok_Tok n_Tok 4 (by decide) qc_281 rfl rfl (by decide +kernel) rfl rfl (Nat.le_of_ble_eq_true rfl) rfl dC_Tok_add_70 (fun H locs hW => ?_)
  have hW := WdC.drop (Ws' := (w_Tok dA o (uN b 33 q15) (cB sT8 1 (((2 : Int32) * (sT.1 1)) + (64 : Int32)).toNatClampNeg f10))) hW 2 rfl
  generalize uN b 33 q15 = b at hW
  obtain ⟨sT16, esT16, hM⟩ := bnd_some hM
  rw [← esT16] at hW
  refine lv_aload_n (pc := 73) hx hb dC_Tok_add_73 rfl (lv_at hl 1 rfl) ?_
  refine lv_aload_n (pc := 74) hx hb dC_Tok_add_74 rfl (lv_at hl 1 rfl) ?_
  refine x_getC (pc := 75) C hW 0 rfl (ci := 3) rfl i_Tok 5 (by decide) qc_282 rfl rfl dC_Tok_add_75 ?_
  refine lv_iload (pc := 78) hx hb dC_Tok_add_78 (lv_at hl 0 rfl) ?_
  obtain ⟨r17, f18, da19, ea20, db21, eb22, hr17, hM, hqda19, hpda19⟩ := ct_some hM
  refine x_callT (pc := 80) (n' := 4) C hW (kC_copyOf l D dA z (b 34) (((2 : Int32) * (sT.1 1)) + (64 : Int32)) _ _ hr17) [3, 0, 1, 2] rfl (by decide +kernel) rfl qc_78 qc_1043 qc_77 qc_4 ⟨by decide, by decide, by decide +kernel⟩ ⟨Nat.le_of_ble_eq_true rfl, Nat.le_of_ble_eq_true rfl⟩ ⟨show _ + da19 ≤ DC by omega, show _ + ea20 ≤ DS by omega⟩ (As := [.ref (b 34), .int (((2 : Int32) * (sT.1 1)) + (64 : Int32))]) (n := 2) rfl hl.1 rfl (Nat.le_of_ble_eq_true rfl) dC_Tok_add_80 (fun Wc' ov H locs hPo hWn => ?_)
  obtain ⟨q23, rfl, rfl⟩ := hPo
  have hW := hWn [[(o 32, .inr (3, [.int (sT16.1 0), .int (sT16.1 1), .int (sT16.1 2), .ref (b 32), .ref (b 33), .ref (b 34)]))], [(b 32, .inl (dA 2, sT16.2.2 0, .inl (sT16.2.1 0)))], [(b 33, .inl (dA 2, sT16.2.2 1, .inl (sT16.2.1 1)))], [(b 34, .inl (dA 2, sT16.2.2 2, .inl (sT16.2.1 2))), (q23, .inl (dA 2, (((2 : Int32) * (sT.1 1)) + (64 : Int32)).toNatClampNeg, .inl f18))]] rfl rfl
  refine x_putC (pc := 83) (ty := .array .int) (v := .ref q23) (Ws' := [[(o 32, .inr (3, [.int (sT16.1 0), .int (sT16.1 1), .int (sT16.1 2), .ref (b 32), .ref (b 33), .ref q23]))], [(b 32, .inl (dA 2, sT16.2.2 0, .inl (sT16.2.1 0)))], [(b 33, .inl (dA 2, sT16.2.2 1, .inl (sT16.2.1 1)))], [(b 34, .inl (dA 2, sT16.2.2 2, .inl (sT16.2.1 2))), (q23, .inl (dA 2, (((2 : Int32) * (sT.1 1)) + (64 : Int32)).toNatClampNeg, .inl f18))]]) C hW 0 rfl (ci := 3) rfl i_Tok tok_Tok n_Tok 5 (by decide) qc_282 rfl rfl (by decide +kernel) rfl rfl (Nat.le_of_ble_eq_true rfl) rfl dC_Tok_add_83 (fun H locs hW => ?_)
  have hW := WdC.drop (Ws' := (w_Tok dA o (uN b 34 q23) (cB sT16 2 (((2 : Int32) * (sT.1 1)) + (64 : Int32)).toNatClampNeg f18))) hW 3 rfl
  generalize uN b 34 q23 = b at hW
  obtain ⟨sT24, esT24, hM⟩ := bnd_some hM
  rw [← esT24] at hW
  exact bC_Tok_add_86  C  _ _ _ _ _ _ _ _ hM (by omega) (by omega) _ _ _ hW _ (lv_sub hl [1, 2, 3, 4] rfl)
def C_Tok_add (x1 : Int32) (x2 : Int32) (x3 : Int32) (sT : CS) : Option ((Int32 × CS) × (Nat × Nat)) :=
  (if (nI (sT.2.2 0)) ≤ (sT.1 1) then C_Tok_add_36  x1 x2 x3 sT else (if (nI (sT.2.2 1)) ≤ (sT.1 1) then C_Tok_add_36  x1 x2 x3 sT else (if (sT.1 1) < (nI (sT.2.2 2)) then C_Tok_add_86  x1 x2 x3 sT else C_Tok_add_36  x1 x2 x3 sT)))
set_option maxHeartbeats 4000000 in
set_option maxRecDepth 100000 in
theorem bC_Tok_add_0  {r : Int32} {u : CS} {DC DS : Nat} (C : CxC R_Tok p s m args meth c cC_Tok_add 5 none D dA z A) (x1 : Int32) (x2 : Int32) (x3 : Int32) (sT : CS) (dc ds kc ks : Nat) (hM : C_Tok_add  x1 x2 x3 sT = some ((r, u), (dc, ds))) (hdc : kc + dc ≤ DC) (hds : ks + ds ≤ DS) (b : Nat → Nat) (H : Heap) (locs : List Loc) (hW : WdC D A s (w_Tok dA o b sT) H locs) (ls : Array Slot) (hl : lv_has ls 5 [(0, .ref (o 32)), (1, .int x1), (2, .int x2), (3, .int x3)]) : W p l e (rmC 2 102 DC DS) s m args below meth c H locs kc ks (MQ below (QC D A (fun Ws' ov => ∃ b' : Nat → Nat, Ws' = (w_Tok dA o b' u) ∧ ov = none)) args s DC DS A) (F0 m 0 ls []) := by
  have hx := C.1.1
  have hb := C.1.2.1
  have hown := C.1.2.2.2.2.1
  have hT := C.1.2.2.2.2.2.1
  unfold C_Tok_add at hM
  refine lv_aload_n (pc := 0) hx hb dC_Tok_add_0 rfl (lv_at hl 0 rfl) ?_
  refine x_getC (pc := 1) C hW 0 rfl (ci := 3) rfl i_Tok 1 (by decide) qc_278 rfl rfl dC_Tok_add_1 ?_
  refine lv_aload_n (pc := 4) hx hb dC_Tok_add_4 rfl (lv_at hl 0 rfl) ?_
  refine x_getC (pc := 5) C hW 0 rfl (ci := 3) rfl i_Tok 3 (by decide) qc_280 rfl rfl dC_Tok_add_5 ?_
  refine x_alenC (pc := 8) C hW 1 rfl dC_Tok_add_8 ?_
  refine lv_icmp_ge (pc := 9) (tgt := 36) hx hb dC_Tok_add_9 (by decide) (fun hc => ?_) (fun hc => ?_)
  · replace hM := it_t hc hM
    exact bC_Tok_add_36  C  _ _ _ _ _ _ _ _ hM (by omega) (by omega) _ _ _ hW _ (lv_sub hl [0, 1, 2, 3] rfl)
  · replace hM := it_f hc hM
    refine lv_aload_n (pc := 12) hx hb dC_Tok_add_12 rfl (lv_at hl 0 rfl) ?_
    refine x_getC (pc := 13) C hW 0 rfl (ci := 3) rfl i_Tok 1 (by decide) qc_278 rfl rfl dC_Tok_add_13 ?_
    refine lv_aload_n (pc := 16) hx hb dC_Tok_add_16 rfl (lv_at hl 0 rfl) ?_
    refine x_getC (pc := 17) C hW 0 rfl (ci := 3) rfl i_Tok 4 (by decide) qc_281 rfl rfl dC_Tok_add_17 ?_
    refine x_alenC (pc := 20) C hW 2 rfl dC_Tok_add_20 ?_
    refine lv_icmp_ge (pc := 21) (tgt := 36) hx hb dC_Tok_add_21 (by decide) (fun hc => ?_) (fun hc => ?_)
    · replace hM := it_t hc hM
      exact bC_Tok_add_36  C  _ _ _ _ _ _ _ _ hM (by omega) (by omega) _ _ _ hW _ (lv_sub hl [0, 1, 2, 3] rfl)
    · replace hM := it_f hc hM
      refine lv_aload_n (pc := 24) hx hb dC_Tok_add_24 rfl (lv_at hl 0 rfl) ?_
      refine x_getC (pc := 25) C hW 0 rfl (ci := 3) rfl i_Tok 1 (by decide) qc_278 rfl rfl dC_Tok_add_25 ?_
      refine lv_aload_n (pc := 28) hx hb dC_Tok_add_28 rfl (lv_at hl 0 rfl) ?_
      refine x_getC (pc := 29) C hW 0 rfl (ci := 3) rfl i_Tok 5 (by decide) qc_282 rfl rfl dC_Tok_add_29 ?_
      refine x_alenC (pc := 32) C hW 3 rfl dC_Tok_add_32 ?_
      refine lv_icmp_lt (pc := 33) (tgt := 86) hx hb dC_Tok_add_33 (by decide) (fun hc => ?_) (fun hc => ?_)
      · replace hM := it_t hc hM
        exact bC_Tok_add_86  C  _ _ _ _ _ _ _ _ hM (by omega) (by omega) _ _ _ hW _ (lv_sub hl [0, 1, 2, 3] rfl)
      · replace hM := it_f hc hM
        exact bC_Tok_add_36  C  _ _ _ _ _ _ _ _ hM (by omega) (by omega) _ _ _ hW _ (lv_sub hl [0, 1, 2, 3] rfl)
theorem kC_Tok_add (l : Launch) (D : va_G) (dA : Nat → ClassId) (z : Nat → Nat) (o b : Nat → Nat) (x1 : Int32) (x2 : Int32) (x3 : Int32) (sT : CS) {r : Int32} {u : CS} {dc ds : Nat} (hM : C_Tok_add x1 x2 x3 sT = some ((r, u), (dc, ds))) : KC l D dA z yC_Tok_add cC_Tok_add 5 none 2 102 dc ds (w_Tok dA o b sT) [.ref (o 32), .int x1, .int x2, .int x3] (fun Ws' ov => ∃ b' : Nat → Nat, Ws' = (w_Tok dA o b' u) ∧ ov = none) := x_enterC (by decide +kernel) (Nat.le_of_ble_eq_true rfl) (fun p e s m args below meth c A C _ hW ls hl => bC_Tok_add_0 C x1 x2 x3 sT dc ds 0 0 hM (by omega) (by omega) b s.heap [] hW ls hl)
def C_Row_zero_26 (N : Nat) (x1 : Int32) (sX : CS) : Option ((Int32 × CS) × (Nat × Nat)) :=
  bnd (cF sX 0 (jmax x1 (0 : Int32))) (fun sX1 => cl (C_Arr_fill N (0 : Int32) (sX1.1 0) (0 : Int32) (ag sX1 0)) (fun r2 u3 => bnd (aset sX1 0 u3) (fun sX4 => some (((0 : Int32), sX4), (0, 0)))))
set_option maxHeartbeats 4000000 in
set_option maxRecDepth 100000 in
theorem bC_Row_zero_26 (N : Nat)  {r : Int32} {u : CS} {DC DS : Nat} (C : CxC R_Row p s m args meth c cC_Row_zero 2 none D dA z A) (x1 : Int32) (sX : CS) (dc ds kc ks : Nat) (hM : C_Row_zero_26 N  x1 sX = some ((r, u), (dc, ds))) (hdc : kc + dc ≤ DC) (hds : ks + ds ≤ DS) (b : Nat → Nat) (H : Heap) (locs : List Loc) (hW : WdC D A s (w_Row dA o b sX) H locs) (ls : Array Slot) (hl : lv_has ls 2 [(0, .ref (o 0)), (1, .int x1)]) : W p l e (rmC 2 46 DC DS) s m args below meth c H locs kc ks (MQ below (QC D A (fun Ws' ov => ∃ b' : Nat → Nat, Ws' = (w_Row dA o b' u) ∧ ov = none)) args s DC DS A) (F0 m 26 ls []) := by
  have hx := C.1.1
  have hb := C.1.2.1
  have hown := C.1.2.2.2.2.1
  have hT := C.1.2.2.2.2.2.1
  unfold C_Row_zero_26 at hM
  refine lv_aload_n (pc := 26) hx hb dC_Row_zero_26 rfl (lv_at hl 0 rfl) ?_
  refine lv_iload_n (pc := 27) hx hb dC_Row_zero_27 rfl (lv_at hl 1 rfl) ?_
  refine lv_iconst (pc := 28) (v := 0) hx hb dC_Row_zero_28 (by decide) ?_
  refine va_mmax (pc := 29) hx hb (C.1.2.2.1.trans hl.1.symm) hown (hT _ qc_1362) (hT _ qc_713) (hT _ qc_5) (hT _ qc_714) (Nat.le_of_ble_eq_true rfl) (Nat.le_of_ble_eq_true rfl) (show _ ≤ DC by omega) (show _ ≤ DS by omega) dC_Row_zero_29 ?_
  refine x_seti (b := jmax x1 (0 : Int32)) rfl ?_
  refine x_putC (pc := 32) (ty := .int) (Ws' := (w_Row dA o b (cF sX 0 (jmax x1 (0 : Int32))))) C hW 0 rfl (ci := 1) rfl i_Row tok_Row n_Row 0 (by decide) qc_52 rfl rfl (by decide +kernel) rfl rfl (Nat.le_of_ble_eq_true rfl) rfl dC_Row_zero_32 (fun H locs hW => ?_)
  obtain ⟨sX1, esX1, hM⟩ := bnd_some hM
  rw [← esX1] at hW
  refine lv_aload_n (pc := 35) hx hb dC_Row_zero_35 rfl (lv_at hl 0 rfl) ?_
  refine x_getC (pc := 36) C hW 0 rfl (ci := 1) rfl i_Row 1 (by decide) qc_57 rfl rfl dC_Row_zero_36 ?_
  refine lv_iconst (pc := 39) (v := 0) hx hb dC_Row_zero_39 (by decide) ?_
  refine lv_aload_n (pc := 40) hx hb dC_Row_zero_40 rfl (lv_at hl 0 rfl) ?_
  refine x_getC (pc := 41) C hW 0 rfl (ci := 1) rfl i_Row 0 (by decide) qc_52 rfl rfl dC_Row_zero_41 ?_
  refine lv_iconst (pc := 44) (v := 0) hx hb dC_Row_zero_44 (by decide) ?_
  obtain ⟨r2, u3, hr2, hM⟩ := cl_some hM
  refine x_callT (pc := 45) (n' := 2) C hW (kC_Arr_fill l D dA z o (fun _ => b 0) N (0 : Int32) (sX1.1 0) (0 : Int32) (ag sX1 0) hr2) [1, 0] rfl (by decide +kernel) rfl qc_613 qc_611 qc_612 qc_4 ⟨by decide, by decide, by decide +kernel⟩ ⟨Nat.le_of_ble_eq_true rfl, Nat.le_of_ble_eq_true rfl⟩ ⟨show _ + 0 ≤ DC by omega, show _ + 0 ≤ DS by omega⟩ (As := [.ref (b 0), .int (0 : Int32), .int (sX1.1 0), .int (0 : Int32)]) (n := 4) rfl hl.1 rfl (Nat.le_of_ble_eq_true rfl) dC_Row_zero_45 (fun Wc' ov H locs hPo hWn => ?_)
  obtain ⟨rfl, rfl⟩ := hPo
  have hW := hWn (w_Row dA o b (aset sX1 0 u3)) rfl rfl
  obtain ⟨sX4, esX4, hM⟩ := bnd_some hM
  rw [← esX4] at hW
  obtain ⟨rfl, rfl, rfl, rfl⟩ := sm_q hM
  exact x_retCv (pc := 48) C rfl hW ⟨_, rfl, rfl⟩ (by omega) (by omega) dC_Row_zero_48
def C_Row_zero (N : Nat) (x1 : Int32) (sX : CS) : Option ((Int32 × CS) × (Nat × Nat)) :=
  (if x1 ≤ (nI (sX.2.2 0)) then C_Row_zero_26 N  x1 sX else ct (C_newI (jmax x1 ((2 : Int32) * (nI (sX.2.2 0))))) (fun r1 f2 => bnd (cB sX 0 (jmax x1 ((2 : Int32) * (nI (sX.2.2 0)))).toNatClampNeg (fun _ => 0)) (fun sX8 => C_Row_zero_26 N  x1 sX8)))
set_option maxHeartbeats 4000000 in
set_option maxRecDepth 100000 in
theorem bC_Row_zero_0 (N : Nat)  {r : Int32} {u : CS} {DC DS : Nat} (C : CxC R_Row p s m args meth c cC_Row_zero 2 none D dA z A) (x1 : Int32) (sX : CS) (dc ds kc ks : Nat) (hM : C_Row_zero N  x1 sX = some ((r, u), (dc, ds))) (hdc : kc + dc ≤ DC) (hds : ks + ds ≤ DS) (b : Nat → Nat) (H : Heap) (locs : List Loc) (hW : WdC D A s (w_Row dA o b sX) H locs) (ls : Array Slot) (hl : lv_has ls 2 [(0, .ref (o 0)), (1, .int x1)]) : W p l e (rmC 2 46 DC DS) s m args below meth c H locs kc ks (MQ below (QC D A (fun Ws' ov => ∃ b' : Nat → Nat, Ws' = (w_Row dA o b' u) ∧ ov = none)) args s DC DS A) (F0 m 0 ls []) := by
  have hx := C.1.1
  have hb := C.1.2.1
  have hown := C.1.2.2.2.2.1
  have hT := C.1.2.2.2.2.2.1
  unfold C_Row_zero at hM
  refine lv_iload_n (pc := 0) hx hb dC_Row_zero_0 rfl (lv_at hl 1 rfl) ?_
  refine lv_aload_n (pc := 1) hx hb dC_Row_zero_1 rfl (lv_at hl 0 rfl) ?_
  refine x_getC (pc := 2) C hW 0 rfl (ci := 1) rfl i_Row 1 (by decide) qc_57 rfl rfl dC_Row_zero_2 ?_
  refine x_alenC (pc := 5) C hW 1 rfl dC_Row_zero_5 ?_
  refine lv_icmp_le (pc := 6) (tgt := 26) hx hb dC_Row_zero_6 (by decide) (fun hc => ?_) (fun hc => ?_)
  · replace hM := it_t hc hM
    exact bC_Row_zero_26 N  C  _ _ _ _ _ _ hM (by omega) (by omega) _ _ _ hW _ (lv_sub hl [0, 1] rfl)
  · replace hM := it_f hc hM
    refine lv_aload_n (pc := 9) hx hb dC_Row_zero_9 rfl (lv_at hl 0 rfl) ?_
    refine lv_iload_n (pc := 10) hx hb dC_Row_zero_10 rfl (lv_at hl 1 rfl) ?_
    refine lv_iconst (pc := 11) (v := 2) hx hb dC_Row_zero_11 (by decide) ?_
    refine lv_aload_n (pc := 12) hx hb dC_Row_zero_12 rfl (lv_at hl 0 rfl) ?_
    refine x_getC (pc := 13) C hW 0 rfl (ci := 1) rfl i_Row 1 (by decide) qc_57 rfl rfl dC_Row_zero_13 ?_
    refine x_alenC (pc := 16) C hW 1 rfl dC_Row_zero_16 ?_
    refine lv_imul (pc := 17) hx hb dC_Row_zero_17 ?_
    refine va_mmax (pc := 18) hx hb (C.1.2.2.1.trans hl.1.symm) hown (hT _ qc_1362) (hT _ qc_713) (hT _ qc_5) (hT _ qc_714) (Nat.le_of_ble_eq_true rfl) (Nat.le_of_ble_eq_true rfl) (show _ ≤ DC by omega) (show _ ≤ DS by omega) dC_Row_zero_18 ?_
    refine x_seti (b := jmax x1 ((2 : Int32) * (nI (sX.2.2 0)))) rfl ?_
    obtain ⟨r1, f2, da3, ea4, db5, eb6, hr1, hM, hqda3, hpda3⟩ := ct_some hM
    obtain ⟨hnr1, hbr1, rfl, rfl⟩ := newI_some hr1
    refine x_newI (pc := 21) C hW hnr1 hbr1 (show _ + 1 ≤ DC by omega) (show _ + (jmax x1 ((2 : Int32) * (nI (sX.2.2 0)))).toNatClampNeg ≤ DS by omega) qc_63 dC_Row_zero_21 (fun q7 H hW => ?_)
    refine x_putC (pc := 23) (ty := .array .int) (v := .ref q7) (Ws' := [[(o 0, .inr (1, [.int (sX.1 0), .ref q7]))], [(b 0, .inl (dA 2, sX.2.2 0, .inl (sX.2.1 0)))], [(q7, .inl (dA 2, (jmax x1 ((2 : Int32) * (nI (sX.2.2 0)))).toNatClampNeg, .inl (fun _ => 0)))]]) C hW 0 rfl (ci := 1) rfl i_Row tok_Row n_Row 1 (by decide) qc_57 rfl rfl (by decide +kernel) rfl rfl (Nat.le_of_ble_eq_true rfl) rfl dC_Row_zero_23 (fun H locs hW => ?_)
    have hW := WdC.drop (Ws' := (w_Row dA o (uN b 0 q7) (cB sX 0 (jmax x1 ((2 : Int32) * (nI (sX.2.2 0)))).toNatClampNeg (fun _ => 0)))) hW 1 rfl
    generalize uN b 0 q7 = b at hW
    obtain ⟨sX8, esX8, hM⟩ := bnd_some hM
    rw [← esX8] at hW
    exact bC_Row_zero_26 N  C  _ _ _ _ _ _ hM (by omega) (by omega) _ _ _ hW _ (lv_sub hl [0, 1] rfl)
theorem kC_Row_zero (l : Launch) (D : va_G) (dA : Nat → ClassId) (z : Nat → Nat) (o b : Nat → Nat) (N : Nat) (x1 : Int32) (sX : CS) {r : Int32} {u : CS} {dc ds : Nat} (hM : C_Row_zero N x1 sX = some ((r, u), (dc, ds))) : KC l D dA z yC_Row_zero cC_Row_zero 2 none 2 46 dc ds (w_Row dA o b sX) [.ref (o 0), .int x1] (fun Ws' ov => ∃ b' : Nat → Nat, Ws' = (w_Row dA o b' u) ∧ ov = none) := x_enterC (by decide +kernel) (Nat.le_of_ble_eq_true rfl) (fun p e s m args below meth c A C _ hW ls hl => bC_Row_zero_0 N C x1 sX dc ds 0 0 hM (by omega) (by omega) b s.heap [] hW ls hl)
end
