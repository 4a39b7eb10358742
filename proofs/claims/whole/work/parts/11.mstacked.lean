theorem q_1658 : (Jvm.Cond.fieldLink "LineAssemblerModel" (269 : Nat) "LineAssemblerModel" "shapes" "[B") ∈ lw_gd := u_6 (List.mem_of_getElem? (i := 218) (by decide +kernel)) (by decide +kernel)
theorem q_1659 : (Jvm.Cond.fieldLink "LineAssemblerModel" (319 : Nat) "LineAssemblerModel" "patterns" "[I") ∈ lw_gd := u_6 (List.mem_of_getElem? (i := 219) (by decide +kernel)) (by decide +kernel)
theorem q_1890 : (Jvm.Cond.methodLink "LineAssemblerModel" (654 : Nat) ({ cls := "LineAssemblerModel", name := "suffix", desc := "()I" } : Jvm.MethodName)) ∈ lw_gd := u_7 (List.mem_of_getElem? (i := 210) (by decide +kernel)) (by decide +kernel)
theorem q_1892 : (Jvm.Cond.instanceMethod ({ cls := "LineAssemblerModel", name := "suffix", desc := "()I" } : Jvm.MethodName)) ∈ lw_gd := u_7 (List.mem_of_getElem? (i := 212) (by decide +kernel)) (by decide +kernel)
theorem q_1893 : (Jvm.Cond.code ({ cls := "LineAssemblerModel", name := "suffix", desc := "()I" } : Jvm.MethodName) prog_14_method_73_code (4 : Nat) (Option.some Jvm.ClassFile.FieldType.int)) ∈ lw_gd := u_7 (List.mem_of_getElem? (i := 213) (by decide +kernel)) (by decide +kernel)
theorem q_1894 : (Jvm.Cond.methodLink "LineAssemblerModel" (657 : Nat) ({ cls := "LineAssemblerModel", name := "named", desc := "(II)I" } : Jvm.MethodName)) ∈ lw_gd := u_7 (List.mem_of_getElem? (i := 214) (by decide +kernel)) (by decide +kernel)
theorem q_1896 : (Jvm.Cond.instanceMethod ({ cls := "LineAssemblerModel", name := "named", desc := "(II)I" } : Jvm.MethodName)) ∈ lw_gd := u_7 (List.mem_of_getElem? (i := 216) (by decide +kernel)) (by decide +kernel)
theorem q_1897 : (Jvm.Cond.code ({ cls := "LineAssemblerModel", name := "named", desc := "(II)I" } : Jvm.MethodName) prog_14_method_72_code (6 : Nat) (Option.some Jvm.ClassFile.FieldType.int)) ∈ lw_gd := u_7 (List.mem_of_getElem? (i := 217) (by decide +kernel)) (by decide +kernel)
theorem q_1898 : (Jvm.Cond.constant "LineAssemblerModel" (660 : Nat) (100663296 : Int32)) ∈ lw_gd := u_7 (List.mem_of_getElem? (i := 218) (by decide +kernel)) (by decide +kernel)
theorem q_1899 : (Jvm.Cond.constant "LineAssemblerModel" (661 : Nat) (67108864 : Int32)) ∈ lw_gd := u_7 (List.mem_of_getElem? (i := 219) (by decide +kernel)) (by decide +kernel)
theorem q_1900 : (Jvm.Cond.constant "LineAssemblerModel" (662 : Nat) (33554432 : Int32)) ∈ lw_gd := u_7 (List.mem_of_getElem? (i := 220) (by decide +kernel)) (by decide +kernel)
theorem q_1901 : (Jvm.Cond.methodLink "LineAssemblerModel" (663 : Nat) ({ cls := "LineAssemblerModel", name := "directive", desc := "(II)V" } : Jvm.MethodName)) ∈ lw_gd := u_7 (List.mem_of_getElem? (i := 221) (by decide +kernel)) (by decide +kernel)
theorem q_1903 : (Jvm.Cond.instanceMethod ({ cls := "LineAssemblerModel", name := "directive", desc := "(II)V" } : Jvm.MethodName)) ∈ lw_gd := u_7 (List.mem_of_getElem? (i := 223) (by decide +kernel)) (by decide +kernel)
theorem q_1904 : (Jvm.Cond.code ({ cls := "LineAssemblerModel", name := "directive", desc := "(II)V" } : Jvm.MethodName) prog_14_method_71_code (6 : Nat) (Option.none : Option Jvm.ClassFile.FieldType)) ∈ lw_gd := u_7 (List.mem_of_getElem? (i := 224) (by decide +kernel)) (by decide +kernel)
theorem q_1993 : (Jvm.Cond.methodLink "LineAssemblerModel" (667 : Nat) ({ cls := "LineAssemblerModel", name := "jumps", desc := "(II)V" } : Jvm.MethodName)) ∈ lw_gd := u_8 (List.mem_of_getElem? (i := 73) (by decide +kernel)) (by decide +kernel)
theorem q_1995 : (Jvm.Cond.instanceMethod ({ cls := "LineAssemblerModel", name := "jumps", desc := "(II)V" } : Jvm.MethodName)) ∈ lw_gd := u_8 (List.mem_of_getElem? (i := 75) (by decide +kernel)) (by decide +kernel)
theorem q_1996 : (Jvm.Cond.code ({ cls := "LineAssemblerModel", name := "jumps", desc := "(II)V" } : Jvm.MethodName) prog_14_method_62_code (7 : Nat) (Option.none : Option Jvm.ClassFile.FieldType)) ∈ lw_gd := u_8 (List.mem_of_getElem? (i := 76) (by decide +kernel)) (by decide +kernel)
theorem q_2028 : (Jvm.Cond.methodLink "LineAssemblerModel" (670 : Nat) ({ cls := "LineAssemblerModel", name := "branches", desc := "(II)V" } : Jvm.MethodName)) ∈ lw_gd := u_8 (List.mem_of_getElem? (i := 108) (by decide +kernel)) (by decide +kernel)
theorem q_2030 : (Jvm.Cond.instanceMethod ({ cls := "LineAssemblerModel", name := "branches", desc := "(II)V" } : Jvm.MethodName)) ∈ lw_gd := u_8 (List.mem_of_getElem? (i := 110) (by decide +kernel)) (by decide +kernel)
theorem q_2031 : (Jvm.Cond.code ({ cls := "LineAssemblerModel", name := "branches", desc := "(II)V" } : Jvm.MethodName) prog_14_method_61_code (6 : Nat) (Option.none : Option Jvm.ClassFile.FieldType)) ∈ lw_gd := u_8 (List.mem_of_getElem? (i := 111) (by decide +kernel)) (by decide +kernel)
theorem q_2046 : (Jvm.Cond.methodLink "LineAssemblerModel" (673 : Nat) ({ cls := "LineAssemblerModel", name := "longs", desc := "(II)V" } : Jvm.MethodName)) ∈ lw_gd := u_8 (List.mem_of_getElem? (i := 126) (by decide +kernel)) (by decide +kernel)
theorem q_2048 : (Jvm.Cond.instanceMethod ({ cls := "LineAssemblerModel", name := "longs", desc := "(II)V" } : Jvm.MethodName)) ∈ lw_gd := u_8 (List.mem_of_getElem? (i := 128) (by decide +kernel)) (by decide +kernel)
theorem q_2049 : (Jvm.Cond.code ({ cls := "LineAssemblerModel", name := "longs", desc := "(II)V" } : Jvm.MethodName) prog_14_method_60_code (6 : Nat) (Option.none : Option Jvm.ClassFile.FieldType)) ∈ lw_gd := u_8 (List.mem_of_getElem? (i := 129) (by decide +kernel)) (by decide +kernel)
theorem q_2059 : (Jvm.Cond.methodLink "LineAssemblerModel" (676 : Nat) ({ cls := "LineAssemblerModel", name := "shorts", desc := "(II)V" } : Jvm.MethodName)) ∈ lw_gd := u_8 (List.mem_of_getElem? (i := 139) (by decide +kernel)) (by decide +kernel)
theorem q_2061 : (Jvm.Cond.instanceMethod ({ cls := "LineAssemblerModel", name := "shorts", desc := "(II)V" } : Jvm.MethodName)) ∈ lw_gd := u_8 (List.mem_of_getElem? (i := 141) (by decide +kernel)) (by decide +kernel)
theorem q_2062 : (Jvm.Cond.code ({ cls := "LineAssemblerModel", name := "shorts", desc := "(II)V" } : Jvm.MethodName) prog_14_method_65_code (6 : Nat) (Option.none : Option Jvm.ClassFile.FieldType)) ∈ lw_gd := u_8 (List.mem_of_getElem? (i := 142) (by decide +kernel)) (by decide +kernel)
theorem q_2071 : (Jvm.Cond.methodLink "LineAssemblerModel" (626 : Nat) ({ cls := "LineAssemblerModel", name := "not", desc := "(II)I" } : Jvm.MethodName)) ∈ lw_gd := u_8 (List.mem_of_getElem? (i := 151) (by decide +kernel)) (by decide +kernel)
theorem q_2073 : (Jvm.Cond.instanceMethod ({ cls := "LineAssemblerModel", name := "not", desc := "(II)I" } : Jvm.MethodName)) ∈ lw_gd := u_8 (List.mem_of_getElem? (i := 153) (by decide +kernel)) (by decide +kernel)
theorem q_2074 : (Jvm.Cond.code ({ cls := "LineAssemblerModel", name := "not", desc := "(II)I" } : Jvm.MethodName) prog_14_method_43_code (3 : Nat) (Option.some Jvm.ClassFile.FieldType.int)) ∈ lw_gd := u_8 (List.mem_of_getElem? (i := 154) (by decide +kernel)) (by decide +kernel)
theorem q_2075 : (Jvm.Cond.methodLink "LineAssemblerModel" (629 : Nat) ({ cls := "LineAssemblerModel", name := "smalls", desc := "(III)V" } : Jvm.MethodName)) ∈ lw_gd := u_8 (List.mem_of_getElem? (i := 155) (by decide +kernel)) (by decide +kernel)
theorem q_2077 : (Jvm.Cond.instanceMethod ({ cls := "LineAssemblerModel", name := "smalls", desc := "(III)V" } : Jvm.MethodName)) ∈ lw_gd := u_8 (List.mem_of_getElem? (i := 157) (by decide +kernel)) (by decide +kernel)
theorem q_2078 : (Jvm.Cond.code ({ cls := "LineAssemblerModel", name := "smalls", desc := "(III)V" } : Jvm.MethodName) prog_14_method_68_code (6 : Nat) (Option.none : Option Jvm.ClassFile.FieldType)) ∈ lw_gd := u_8 (List.mem_of_getElem? (i := 158) (by decide +kernel)) (by decide +kernel)
theorem q_2082 : (Jvm.Cond.methodLink "LineAssemblerModel" (633 : Nat) ({ cls := "LineAssemblerModel", name := "plainSix", desc := "(IIZ)V" } : Jvm.MethodName)) ∈ lw_gd := u_8 (List.mem_of_getElem? (i := 162) (by decide +kernel)) (by decide +kernel)
theorem q_2084 : (Jvm.Cond.instanceMethod ({ cls := "LineAssemblerModel", name := "plainSix", desc := "(IIZ)V" } : Jvm.MethodName)) ∈ lw_gd := u_8 (List.mem_of_getElem? (i := 164) (by decide +kernel)) (by decide +kernel)
theorem q_2085 : (Jvm.Cond.code ({ cls := "LineAssemblerModel", name := "plainSix", desc := "(IIZ)V" } : Jvm.MethodName) prog_14_method_66_code (5 : Nat) (Option.none : Option Jvm.ClassFile.FieldType)) ∈ lw_gd := u_8 (List.mem_of_getElem? (i := 165) (by decide +kernel)) (by decide +kernel)
theorem q_2086 : (Jvm.Cond.methodLink "LineAssemblerModel" (637 : Nat) ({ cls := "LineAssemblerModel", name := "stacked", desc := "(III)V" } : Jvm.MethodName)) ∈ lw_gd := u_8 (List.mem_of_getElem? (i := 166) (by decide +kernel)) (by decide +kernel)
theorem q_2088 : (Jvm.Cond.instanceMethod ({ cls := "LineAssemblerModel", name := "stacked", desc := "(III)V" } : Jvm.MethodName)) ∈ lw_gd := u_8 (List.mem_of_getElem? (i := 168) (by decide +kernel)) (by decide +kernel)
theorem q_2089 : (Jvm.Cond.code ({ cls := "LineAssemblerModel", name := "stacked", desc := "(III)V" } : Jvm.MethodName) prog_14_method_67_code (5 : Nat) (Option.none : Option Jvm.ClassFile.FieldType)) ∈ lw_gd := u_8 (List.mem_of_getElem? (i := 169) (by decide +kernel)) (by decide +kernel)
theorem q_2090 : (Jvm.Cond.methodLink "LineAssemblerModel" (679 : Nat) ({ cls := "LineAssemblerModel", name := "others", desc := "(II)V" } : Jvm.MethodName)) ∈ lw_gd := u_8 (List.mem_of_getElem? (i := 170) (by decide +kernel)) (by decide +kernel)
theorem q_2092 : (Jvm.Cond.instanceMethod ({ cls := "LineAssemblerModel", name := "others", desc := "(II)V" } : Jvm.MethodName)) ∈ lw_gd := u_8 (List.mem_of_getElem? (i := 172) (by decide +kernel)) (by decide +kernel)
theorem q_2093 : (Jvm.Cond.code ({ cls := "LineAssemblerModel", name := "others", desc := "(II)V" } : Jvm.MethodName) prog_14_method_63_code (7 : Nat) (Option.none : Option Jvm.ClassFile.FieldType)) ∈ lw_gd := u_8 (List.mem_of_getElem? (i := 173) (by decide +kernel)) (by decide +kernel)
theorem qs_69 : Cond.selects "LineAssemblerModel" (⟨"LineAssemblerModel", "suffix", "()I"⟩ : MethodName) ⟨"LineAssemblerModel", "suffix", "()I"⟩ ∈ lw_gd := lw_gds (List.mem_of_getElem? (i := 69) (by decide +kernel)) (by decide +kernel)
theorem qs_70 : Cond.selects "LineAssemblerModel" (⟨"LineAssemblerModel", "named", "(II)I"⟩ : MethodName) ⟨"LineAssemblerModel", "named", "(II)I"⟩ ∈ lw_gd := lw_gds (List.mem_of_getElem? (i := 70) (by decide +kernel)) (by decide +kernel)
theorem qs_71 : Cond.selects "LineAssemblerModel" (⟨"LineAssemblerModel", "directive", "(II)V"⟩ : MethodName) ⟨"LineAssemblerModel", "directive", "(II)V"⟩ ∈ lw_gd := lw_gds (List.mem_of_getElem? (i := 71) (by decide +kernel)) (by decide +kernel)
theorem qs_92 : Cond.selects "LineAssemblerModel" (⟨"LineAssemblerModel", "jumps", "(II)V"⟩ : MethodName) ⟨"LineAssemblerModel", "jumps", "(II)V"⟩ ∈ lw_gd := lw_gds (List.mem_of_getElem? (i := 92) (by decide +kernel)) (by decide +kernel)
theorem qs_98 : Cond.selects "LineAssemblerModel" (⟨"LineAssemblerModel", "branches", "(II)V"⟩ : MethodName) ⟨"LineAssemblerModel", "branches", "(II)V"⟩ ∈ lw_gd := lw_gds (List.mem_of_getElem? (i := 98) (by decide +kernel)) (by decide +kernel)
theorem qs_101 : Cond.selects "LineAssemblerModel" (⟨"LineAssemblerModel", "longs", "(II)V"⟩ : MethodName) ⟨"LineAssemblerModel", "longs", "(II)V"⟩ ∈ lw_gd := lw_gds (List.mem_of_getElem? (i := 101) (by decide +kernel)) (by decide +kernel)
theorem qs_104 : Cond.selects "LineAssemblerModel" (⟨"LineAssemblerModel", "shorts", "(II)V"⟩ : MethodName) ⟨"LineAssemblerModel", "shorts", "(II)V"⟩ ∈ lw_gd := lw_gds (List.mem_of_getElem? (i := 104) (by decide +kernel)) (by decide +kernel)
theorem qs_107 : Cond.selects "LineAssemblerModel" (⟨"LineAssemblerModel", "not", "(II)I"⟩ : MethodName) ⟨"LineAssemblerModel", "not", "(II)I"⟩ ∈ lw_gd := lw_gds (List.mem_of_getElem? (i := 107) (by decide +kernel)) (by decide +kernel)
theorem qs_108 : Cond.selects "LineAssemblerModel" (⟨"LineAssemblerModel", "smalls", "(III)V"⟩ : MethodName) ⟨"LineAssemblerModel", "smalls", "(III)V"⟩ ∈ lw_gd := lw_gds (List.mem_of_getElem? (i := 108) (by decide +kernel)) (by decide +kernel)
theorem qs_109 : Cond.selects "LineAssemblerModel" (⟨"LineAssemblerModel", "plainSix", "(IIZ)V"⟩ : MethodName) ⟨"LineAssemblerModel", "plainSix", "(IIZ)V"⟩ ∈ lw_gd := lw_gds (List.mem_of_getElem? (i := 109) (by decide +kernel)) (by decide +kernel)
theorem qs_110 : Cond.selects "LineAssemblerModel" (⟨"LineAssemblerModel", "stacked", "(III)V"⟩ : MethodName) ⟨"LineAssemblerModel", "stacked", "(III)V"⟩ ∈ lw_gd := lw_gds (List.mem_of_getElem? (i := 110) (by decide +kernel)) (by decide +kernel)
theorem qs_111 : Cond.selects "LineAssemblerModel" (⟨"LineAssemblerModel", "others", "(II)V"⟩ : MethodName) ⟨"LineAssemblerModel", "others", "(II)V"⟩ ∈ lw_gd := lw_gds (List.mem_of_getElem? (i := 111) (by decide +kernel)) (by decide +kernel)
abbrev cM_stacked : ByteArray := prog_14_method_67_code
def yM_stacked : MethodName := ⟨RM, "stacked", "(III)V"⟩
abbrev rm_stacked : Room := { frames := 9, cells := 0, slots := 0, locals := 206 }
theorem dM_stacked_0 : decode cM_stacked 0 = .ok (.aload_n 0, 1) := by decide +kernel
theorem dM_stacked_1 : decode cM_stacked 1 = .ok (.iconst 0, 1) := by decide +kernel
theorem dM_stacked_2 : decode cM_stacked 2 = .ok (.sipush 252, 3) := by decide +kernel
theorem dM_stacked_5 : decode cM_stacked 5 = .ok (.iconst 4, 1) := by decide +kernel
theorem dM_stacked_6 : decode cM_stacked 6 = .ok (.invokevirtual 594, 3) := by decide +kernel
theorem dM_stacked_9 : decode cM_stacked 9 = .ok (.istore 4, 2) := by decide +kernel
theorem dM_stacked_11 : decode cM_stacked 11 = .ok (.aload_n 0, 1) := by decide +kernel
theorem dM_stacked_12 : decode cM_stacked 12 = .ok (.iload_n 1, 1) := by decide +kernel
theorem dM_stacked_13 : decode cM_stacked 13 = .ok (.bipush 26, 2) := by decide +kernel
theorem dM_stacked_15 : decode cM_stacked 15 = .ok (.if_icmp .ne (42), 3) := by decide +kernel
theorem dM_stacked_18 : decode cM_stacked 18 = .ok (.iload_n 2, 1) := by decide +kernel
theorem dM_stacked_19 : decode cM_stacked 19 = .ok (.iload_n 3, 1) := by decide +kernel
theorem dM_stacked_20 : decode cM_stacked 20 = .ok (.bipush 7, 2) := by decide +kernel
theorem dM_stacked_22 : decode cM_stacked 22 = .ok (.ishl, 1) := by decide +kernel
theorem dM_stacked_23 : decode cM_stacked 23 = .ok (.ior, 1) := by decide +kernel
theorem dM_stacked_24 : decode cM_stacked 24 = .ok (.iload 4, 2) := by decide +kernel
theorem dM_stacked_26 : decode cM_stacked 26 = .ok (.iconst 5, 1) := by decide +kernel
theorem dM_stacked_27 : decode cM_stacked 27 = .ok (.iconst 5, 1) := by decide +kernel
theorem dM_stacked_28 : decode cM_stacked 28 = .ok (.bipush 12, 2) := by decide +kernel
theorem dM_stacked_30 : decode cM_stacked 30 = .ok (.invokestatic 559, 3) := by decide +kernel
theorem dM_stacked_33 : decode cM_stacked 33 = .ok (.ior, 1) := by decide +kernel
theorem dM_stacked_34 : decode cM_stacked 34 = .ok (.iload 4, 2) := by decide +kernel
theorem dM_stacked_36 : decode cM_stacked 36 = .ok (.iconst 4, 1) := by decide +kernel
theorem dM_stacked_37 : decode cM_stacked 37 = .ok (.iconst 2, 1) := by decide +kernel
theorem dM_stacked_38 : decode cM_stacked 38 = .ok (.iconst 4, 1) := by decide +kernel
theorem dM_stacked_39 : decode cM_stacked 39 = .ok (.invokestatic 559, 3) := by decide +kernel
theorem dM_stacked_42 : decode cM_stacked 42 = .ok (.ior, 1) := by decide +kernel
theorem dM_stacked_43 : decode cM_stacked 43 = .ok (.iload 4, 2) := by decide +kernel
theorem dM_stacked_45 : decode cM_stacked 45 = .ok (.bipush 7, 2) := by decide +kernel
theorem dM_stacked_47 : decode cM_stacked 47 = .ok (.bipush 6, 2) := by decide +kernel
theorem dM_stacked_49 : decode cM_stacked 49 = .ok (.iconst 2, 1) := by decide +kernel
theorem dM_stacked_50 : decode cM_stacked 50 = .ok (.invokestatic 559, 3) := by decide +kernel
theorem dM_stacked_53 : decode cM_stacked 53 = .ok (.ior, 1) := by decide +kernel
theorem dM_stacked_54 : decode cM_stacked 54 = .ok (.goto (30), 3) := by decide +kernel
theorem dM_stacked_57 : decode cM_stacked 57 = .ok (.iload_n 2, 1) := by decide +kernel
theorem dM_stacked_58 : decode cM_stacked 58 = .ok (.iload_n 3, 1) := by decide +kernel
theorem dM_stacked_59 : decode cM_stacked 59 = .ok (.iconst 2, 1) := by decide +kernel
theorem dM_stacked_60 : decode cM_stacked 60 = .ok (.ishl, 1) := by decide +kernel
theorem dM_stacked_61 : decode cM_stacked 61 = .ok (.ior, 1) := by decide +kernel
theorem dM_stacked_62 : decode cM_stacked 62 = .ok (.iload 4, 2) := by decide +kernel
theorem dM_stacked_64 : decode cM_stacked 64 = .ok (.iconst 5, 1) := by decide +kernel
theorem dM_stacked_65 : decode cM_stacked 65 = .ok (.iconst 2, 1) := by decide +kernel
theorem dM_stacked_66 : decode cM_stacked 66 = .ok (.bipush 9, 2) := by decide +kernel
theorem dM_stacked_68 : decode cM_stacked 68 = .ok (.invokestatic 559, 3) := by decide +kernel
theorem dM_stacked_71 : decode cM_stacked 71 = .ok (.ior, 1) := by decide +kernel
theorem dM_stacked_72 : decode cM_stacked 72 = .ok (.iload 4, 2) := by decide +kernel
theorem dM_stacked_74 : decode cM_stacked 74 = .ok (.bipush 7, 2) := by decide +kernel
theorem dM_stacked_76 : decode cM_stacked 76 = .ok (.bipush 6, 2) := by decide +kernel
theorem dM_stacked_78 : decode cM_stacked 78 = .ok (.bipush 7, 2) := by decide +kernel
theorem dM_stacked_80 : decode cM_stacked 80 = .ok (.invokestatic 559, 3) := by decide +kernel
theorem dM_stacked_83 : decode cM_stacked 83 = .ok (.ior, 1) := by decide +kernel
theorem dM_stacked_84 : decode cM_stacked 84 = .ok (.invokevirtual 556, 3) := by decide +kernel
theorem dM_stacked_87 : decode cM_stacked 87 = .ok (.return_, 1) := by decide +kernel
abbrev cM_shorts : ByteArray := prog_14_method_65_code
def yM_shorts : MethodName := ⟨RM, "shorts", "(II)V"⟩
abbrev rm_shorts : Room := { frames := 10, cells := 0, slots := 0, locals := 231 }
theorem dM_shorts_0 : decode cM_shorts 0 = .ok (.iload_n 1, 1) := by decide +kernel
theorem dM_shorts_1 : decode cM_shorts 1 = .ok (.bipush 19, 2) := by decide +kernel
theorem dM_shorts_3 : decode cM_shorts 3 = .ok (.if_icmp .ne (36), 3) := by decide +kernel
theorem dM_shorts_6 : decode cM_shorts 6 = .ok (.aload_n 0, 1) := by decide +kernel
theorem dM_shorts_7 : decode cM_shorts 7 = .ok (.invokevirtual 534, 3) := by decide +kernel
theorem dM_shorts_10 : decode cM_shorts 10 = .ok (.aload_n 0, 1) := by decide +kernel
theorem dM_shorts_11 : decode cM_shorts 11 = .ok (.getfield 495, 3) := by decide +kernel
theorem dM_shorts_14 : decode cM_shorts 14 = .ok (.isub, 1) := by decide +kernel
theorem dM_shorts_15 : decode cM_shorts 15 = .ok (.istore_n 3, 1) := by decide +kernel
theorem dM_shorts_16 : decode cM_shorts 16 = .ok (.aload_n 0, 1) := by decide +kernel
theorem dM_shorts_17 : decode cM_shorts 17 = .ok (.iload_n 3, 1) := by decide +kernel
theorem dM_shorts_18 : decode cM_shorts 18 = .ok (.sipush (-2048), 3) := by decide +kernel
theorem dM_shorts_21 : decode cM_shorts 21 = .ok (.sipush 2046, 3) := by decide +kernel
theorem dM_shorts_24 : decode cM_shorts 24 = .ok (.iconst 2, 1) := by decide +kernel
theorem dM_shorts_25 : decode cM_shorts 25 = .ok (.invokevirtual 537, 3) := by decide +kernel
theorem dM_shorts_28 : decode cM_shorts 28 = .ok (.aload_n 0, 1) := by decide +kernel
theorem dM_shorts_29 : decode cM_shorts 29 = .ok (.iload_n 2, 1) := by decide +kernel
theorem dM_shorts_30 : decode cM_shorts 30 = .ok (.iload_n 3, 1) := by decide +kernel
theorem dM_shorts_31 : decode cM_shorts 31 = .ok (.invokestatic 573, 3) := by decide +kernel
theorem dM_shorts_34 : decode cM_shorts 34 = .ok (.ior, 1) := by decide +kernel
theorem dM_shorts_35 : decode cM_shorts 35 = .ok (.invokevirtual 556, 3) := by decide +kernel
theorem dM_shorts_38 : decode cM_shorts 38 = .ok (.return_, 1) := by decide +kernel
theorem dM_shorts_39 : decode cM_shorts 39 = .ok (.iload_n 1, 1) := by decide +kernel
theorem dM_shorts_40 : decode cM_shorts 40 = .ok (.bipush 20, 2) := by decide +kernel
theorem dM_shorts_42 : decode cM_shorts 42 = .ok (.if_icmp .ne (75), 3) := by decide +kernel
theorem dM_shorts_45 : decode cM_shorts 45 = .ok (.aload_n 0, 1) := by decide +kernel
theorem dM_shorts_46 : decode cM_shorts 46 = .ok (.sipush (-512), 3) := by decide +kernel
theorem dM_shorts_49 : decode cM_shorts 49 = .ok (.sipush 496, 3) := by decide +kernel
theorem dM_shorts_52 : decode cM_shorts 52 = .ok (.bipush 16, 2) := by decide +kernel
theorem dM_shorts_54 : decode cM_shorts 54 = .ok (.invokevirtual 594, 3) := by decide +kernel
theorem dM_shorts_57 : decode cM_shorts 57 = .ok (.istore_n 3, 1) := by decide +kernel
theorem dM_shorts_58 : decode cM_shorts 58 = .ok (.aload_n 0, 1) := by decide +kernel
theorem dM_shorts_59 : decode cM_shorts 59 = .ok (.iload_n 3, 1) := by decide +kernel
theorem dM_shorts_60 : decode cM_shorts 60 = .ok (.invokevirtual 620, 3) := by decide +kernel
theorem dM_shorts_63 : decode cM_shorts 63 = .ok (.aload_n 0, 1) := by decide +kernel
theorem dM_shorts_64 : decode cM_shorts 64 = .ok (.iload_n 2, 1) := by decide +kernel
theorem dM_shorts_65 : decode cM_shorts 65 = .ok (.iload_n 3, 1) := by decide +kernel
theorem dM_shorts_66 : decode cM_shorts 66 = .ok (.bipush 9, 2) := by decide +kernel
theorem dM_shorts_68 : decode cM_shorts 68 = .ok (.bipush 9, 2) := by decide +kernel
theorem dM_shorts_70 : decode cM_shorts 70 = .ok (.bipush 12, 2) := by decide +kernel
theorem dM_shorts_72 : decode cM_shorts 72 = .ok (.invokestatic 559, 3) := by decide +kernel
theorem dM_shorts_75 : decode cM_shorts 75 = .ok (.ior, 1) := by decide +kernel
theorem dM_shorts_76 : decode cM_shorts 76 = .ok (.iload_n 3, 1) := by decide +kernel
theorem dM_shorts_77 : decode cM_shorts 77 = .ok (.iconst 4, 1) := by decide +kernel
theorem dM_shorts_78 : decode cM_shorts 78 = .ok (.iconst 4, 1) := by decide +kernel
theorem dM_shorts_79 : decode cM_shorts 79 = .ok (.bipush 6, 2) := by decide +kernel
theorem dM_shorts_81 : decode cM_shorts 81 = .ok (.invokestatic 559, 3) := by decide +kernel
theorem dM_shorts_84 : decode cM_shorts 84 = .ok (.ior, 1) := by decide +kernel
theorem dM_shorts_85 : decode cM_shorts 85 = .ok (.iload_n 3, 1) := by decide +kernel
theorem dM_shorts_86 : decode cM_shorts 86 = .ok (.bipush 6, 2) := by decide +kernel
theorem dM_shorts_88 : decode cM_shorts 88 = .ok (.bipush 6, 2) := by decide +kernel
theorem dM_shorts_90 : decode cM_shorts 90 = .ok (.iconst 5, 1) := by decide +kernel
theorem dM_shorts_91 : decode cM_shorts 91 = .ok (.invokestatic 559, 3) := by decide +kernel
theorem dM_shorts_94 : decode cM_shorts 94 = .ok (.ior, 1) := by decide +kernel
theorem dM_shorts_95 : decode cM_shorts 95 = .ok (.iload_n 3, 1) := by decide +kernel
theorem dM_shorts_96 : decode cM_shorts 96 = .ok (.bipush 8, 2) := by decide +kernel
theorem dM_shorts_98 : decode cM_shorts 98 = .ok (.bipush 7, 2) := by decide +kernel
theorem dM_shorts_100 : decode cM_shorts 100 = .ok (.iconst 3, 1) := by decide +kernel
theorem dM_shorts_101 : decode cM_shorts 101 = .ok (.invokestatic 559, 3) := by decide +kernel
theorem dM_shorts_104 : decode cM_shorts 104 = .ok (.ior, 1) := by decide +kernel
theorem dM_shorts_105 : decode cM_shorts 105 = .ok (.iload_n 3, 1) := by decide +kernel
theorem dM_shorts_106 : decode cM_shorts 106 = .ok (.iconst 5, 1) := by decide +kernel
theorem dM_shorts_107 : decode cM_shorts 107 = .ok (.iconst 5, 1) := by decide +kernel
theorem dM_shorts_108 : decode cM_shorts 108 = .ok (.iconst 2, 1) := by decide +kernel
theorem dM_shorts_109 : decode cM_shorts 109 = .ok (.invokestatic 559, 3) := by decide +kernel
theorem dM_shorts_112 : decode cM_shorts 112 = .ok (.ior, 1) := by decide +kernel
theorem dM_shorts_113 : decode cM_shorts 113 = .ok (.invokevirtual 556, 3) := by decide +kernel
theorem dM_shorts_116 : decode cM_shorts 116 = .ok (.return_, 1) := by decide +kernel
theorem dM_shorts_117 : decode cM_shorts 117 = .ok (.iload_n 1, 1) := by decide +kernel
theorem dM_shorts_118 : decode cM_shorts 118 = .ok (.bipush 16, 2) := by decide +kernel
theorem dM_shorts_120 : decode cM_shorts 120 = .ok (.if_icmp .lt (15), 3) := by decide +kernel
theorem dM_shorts_123 : decode cM_shorts 123 = .ok (.iload_n 1, 1) := by decide +kernel
theorem dM_shorts_124 : decode cM_shorts 124 = .ok (.bipush 20, 2) := by decide +kernel
theorem dM_shorts_126 : decode cM_shorts 126 = .ok (.if_icmp .le (13), 3) := by decide +kernel
theorem dM_shorts_129 : decode cM_shorts 129 = .ok (.iload_n 1, 1) := by decide +kernel
theorem dM_shorts_130 : decode cM_shorts 130 = .ok (.bipush 25, 2) := by decide +kernel
theorem dM_shorts_132 : decode cM_shorts 132 = .ok (.if_icmp .ge (7), 3) := by decide +kernel
theorem dM_shorts_135 : decode cM_shorts 135 = .ok (.iconst 1, 1) := by decide +kernel
theorem dM_shorts_136 : decode cM_shorts 136 = .ok (.goto (4), 3) := by decide +kernel
theorem dM_shorts_139 : decode cM_shorts 139 = .ok (.iconst 0, 1) := by decide +kernel
theorem dM_shorts_140 : decode cM_shorts 140 = .ok (.istore_n 3, 1) := by decide +kernel
theorem dM_shorts_141 : decode cM_shorts 141 = .ok (.iload_n 3, 1) := by decide +kernel
theorem dM_shorts_142 : decode cM_shorts 142 = .ok (.ifCond .eq (10), 3) := by decide +kernel
theorem dM_shorts_145 : decode cM_shorts 145 = .ok (.aload_n 0, 1) := by decide +kernel
theorem dM_shorts_146 : decode cM_shorts 146 = .ok (.invokevirtual 623, 3) := by decide +kernel
theorem dM_shorts_149 : decode cM_shorts 149 = .ok (.goto (7), 3) := by decide +kernel
theorem dM_shorts_152 : decode cM_shorts 152 = .ok (.aload_n 0, 1) := by decide +kernel
theorem dM_shorts_153 : decode cM_shorts 153 = .ok (.invokevirtual 541, 3) := by decide +kernel
theorem dM_shorts_156 : decode cM_shorts 156 = .ok (.istore 4, 2) := by decide +kernel
theorem dM_shorts_158 : decode cM_shorts 158 = .ok (.iload_n 1, 1) := by decide +kernel
theorem dM_shorts_159 : decode cM_shorts 159 = .ok (.bipush 27, 2) := by decide +kernel
theorem dM_shorts_161 : decode cM_shorts 161 = .ok (.if_icmp .ne (20), 3) := by decide +kernel
theorem dM_shorts_164 : decode cM_shorts 164 = .ok (.aload_n 0, 1) := by decide +kernel
theorem dM_shorts_165 : decode cM_shorts 165 = .ok (.iload_n 2, 1) := by decide +kernel
theorem dM_shorts_166 : decode cM_shorts 166 = .ok (.aload_n 0, 1) := by decide +kernel
theorem dM_shorts_167 : decode cM_shorts 167 = .ok (.iload 4, 2) := by decide +kernel
theorem dM_shorts_169 : decode cM_shorts 169 = .ok (.iconst 0, 1) := by decide +kernel
theorem dM_shorts_170 : decode cM_shorts 170 = .ok (.invokevirtual 626, 3) := by decide +kernel
theorem dM_shorts_173 : decode cM_shorts 173 = .ok (.bipush 7, 2) := by decide +kernel
theorem dM_shorts_175 : decode cM_shorts 175 = .ok (.ishl, 1) := by decide +kernel
theorem dM_shorts_176 : decode cM_shorts 176 = .ok (.ior, 1) := by decide +kernel
theorem dM_shorts_177 : decode cM_shorts 177 = .ok (.invokevirtual 556, 3) := by decide +kernel
theorem dM_shorts_180 : decode cM_shorts 180 = .ok (.return_, 1) := by decide +kernel
theorem dM_shorts_181 : decode cM_shorts 181 = .ok (.iload_n 1, 1) := by decide +kernel
theorem dM_shorts_182 : decode cM_shorts 182 = .ok (.bipush 26, 2) := by decide +kernel
theorem dM_shorts_184 : decode cM_shorts 184 = .ok (.if_icmp .ne (11), 3) := by decide +kernel
theorem dM_shorts_187 : decode cM_shorts 187 = .ok (.aload_n 0, 1) := by decide +kernel
theorem dM_shorts_188 : decode cM_shorts 188 = .ok (.iload 4, 2) := by decide +kernel
theorem dM_shorts_190 : decode cM_shorts 190 = .ok (.iconst 0, 1) := by decide +kernel
theorem dM_shorts_191 : decode cM_shorts 191 = .ok (.invokevirtual 626, 3) := by decide +kernel
theorem dM_shorts_194 : decode cM_shorts 194 = .ok (.pop, 1) := by decide +kernel
theorem dM_shorts_195 : decode cM_shorts 195 = .ok (.iload_n 1, 1) := by decide +kernel
theorem dM_shorts_196 : decode cM_shorts 196 = .ok (.bipush 18, 2) := by decide +kernel
theorem dM_shorts_198 : decode cM_shorts 198 = .ok (.if_icmp .ne (7), 3) := by decide +kernel
theorem dM_shorts_201 : decode cM_shorts 201 = .ok (.iconst 1, 1) := by decide +kernel
theorem dM_shorts_202 : decode cM_shorts 202 = .ok (.goto (4), 3) := by decide +kernel
theorem dM_shorts_205 : decode cM_shorts 205 = .ok (.iconst 0, 1) := by decide +kernel
theorem dM_shorts_206 : decode cM_shorts 206 = .ok (.istore 5, 2) := by decide +kernel
theorem dM_shorts_208 : decode cM_shorts 208 = .ok (.iload 5, 2) := by decide +kernel
theorem dM_shorts_210 : decode cM_shorts 210 = .ok (.ifCond .eq (11), 3) := by decide +kernel
theorem dM_shorts_213 : decode cM_shorts 213 = .ok (.aload_n 0, 1) := by decide +kernel
theorem dM_shorts_214 : decode cM_shorts 214 = .ok (.iload 4, 2) := by decide +kernel
theorem dM_shorts_216 : decode cM_shorts 216 = .ok (.iconst 2, 1) := by decide +kernel
theorem dM_shorts_217 : decode cM_shorts 217 = .ok (.invokevirtual 626, 3) := by decide +kernel
theorem dM_shorts_220 : decode cM_shorts 220 = .ok (.pop, 1) := by decide +kernel
theorem dM_shorts_221 : decode cM_shorts 221 = .ok (.aload_n 0, 1) := by decide +kernel
theorem dM_shorts_222 : decode cM_shorts 222 = .ok (.invokevirtual 591, 3) := by decide +kernel
theorem dM_shorts_225 : decode cM_shorts 225 = .ok (.ifCond .ne (4), 3) := by decide +kernel
theorem dM_shorts_228 : decode cM_shorts 228 = .ok (.return_, 1) := by decide +kernel
theorem dM_shorts_229 : decode cM_shorts 229 = .ok (.iload_n 3, 1) := by decide +kernel
theorem dM_shorts_230 : decode cM_shorts 230 = .ok (.ifCond .eq (14), 3) := by decide +kernel
theorem dM_shorts_233 : decode cM_shorts 233 = .ok (.aload_n 0, 1) := by decide +kernel
theorem dM_shorts_234 : decode cM_shorts 234 = .ok (.iload_n 1, 1) := by decide +kernel
theorem dM_shorts_235 : decode cM_shorts 235 = .ok (.iload_n 2, 1) := by decide +kernel
theorem dM_shorts_236 : decode cM_shorts 236 = .ok (.iload 4, 2) := by decide +kernel
theorem dM_shorts_238 : decode cM_shorts 238 = .ok (.invokevirtual 629, 3) := by decide +kernel
theorem dM_shorts_241 : decode cM_shorts 241 = .ok (.goto (100), 3) := by decide +kernel
theorem dM_shorts_244 : decode cM_shorts 244 = .ok (.iload_n 1, 1) := by decide +kernel
theorem dM_shorts_245 : decode cM_shorts 245 = .ok (.bipush 28, 2) := by decide +kernel
theorem dM_shorts_247 : decode cM_shorts 247 = .ok (.if_icmp .ne (29), 3) := by decide +kernel
theorem dM_shorts_250 : decode cM_shorts 250 = .ok (.aload_n 0, 1) := by decide +kernel
theorem dM_shorts_251 : decode cM_shorts 251 = .ok (.iload_n 2, 1) := by decide +kernel
theorem dM_shorts_252 : decode cM_shorts 252 = .ok (.iload 4, 2) := by decide +kernel
theorem dM_shorts_254 : decode cM_shorts 254 = .ok (.bipush 7, 2) := by decide +kernel
theorem dM_shorts_256 : decode cM_shorts 256 = .ok (.ishl, 1) := by decide +kernel
theorem dM_shorts_257 : decode cM_shorts 257 = .ok (.ior, 1) := by decide +kernel
theorem dM_shorts_258 : decode cM_shorts 258 = .ok (.aload_n 0, 1) := by decide +kernel
theorem dM_shorts_259 : decode cM_shorts 259 = .ok (.aload_n 0, 1) := by decide +kernel
theorem dM_shorts_260 : decode cM_shorts 260 = .ok (.invokevirtual 541, 3) := by decide +kernel
theorem dM_shorts_263 : decode cM_shorts 263 = .ok (.iconst 0, 1) := by decide +kernel
theorem dM_shorts_264 : decode cM_shorts 264 = .ok (.invokevirtual 626, 3) := by decide +kernel
theorem dM_shorts_267 : decode cM_shorts 267 = .ok (.iconst 2, 1) := by decide +kernel
theorem dM_shorts_268 : decode cM_shorts 268 = .ok (.ishl, 1) := by decide +kernel
theorem dM_shorts_269 : decode cM_shorts 269 = .ok (.ior, 1) := by decide +kernel
theorem dM_shorts_270 : decode cM_shorts 270 = .ok (.invokevirtual 556, 3) := by decide +kernel
theorem dM_shorts_273 : decode cM_shorts 273 = .ok (.goto (68), 3) := by decide +kernel
theorem dM_shorts_276 : decode cM_shorts 276 = .ok (.iload_n 1, 1) := by decide +kernel
theorem dM_shorts_277 : decode cM_shorts 277 = .ok (.bipush 17, 2) := by decide +kernel
theorem dM_shorts_279 : decode cM_shorts 279 = .ok (.if_icmp .eq (8), 3) := by decide +kernel
theorem dM_shorts_282 : decode cM_shorts 282 = .ok (.iload 5, 2) := by decide +kernel
theorem dM_shorts_284 : decode cM_shorts 284 = .ok (.ifCond .eq (15), 3) := by decide +kernel
theorem dM_shorts_287 : decode cM_shorts 287 = .ok (.aload_n 0, 1) := by decide +kernel
theorem dM_shorts_288 : decode cM_shorts 288 = .ok (.iload_n 2, 1) := by decide +kernel
theorem dM_shorts_289 : decode cM_shorts 289 = .ok (.iload 4, 2) := by decide +kernel
theorem dM_shorts_291 : decode cM_shorts 291 = .ok (.iload 5, 2) := by decide +kernel
theorem dM_shorts_293 : decode cM_shorts 293 = .ok (.invokevirtual 633, 3) := by decide +kernel
theorem dM_shorts_296 : decode cM_shorts 296 = .ok (.goto (45), 3) := by decide +kernel
theorem dM_shorts_299 : decode cM_shorts 299 = .ok (.iload_n 1, 1) := by decide +kernel
theorem dM_shorts_300 : decode cM_shorts 300 = .ok (.bipush 25, 2) := by decide +kernel
theorem dM_shorts_302 : decode cM_shorts 302 = .ok (.if_icmp .ne (31), 3) := by decide +kernel
theorem dM_shorts_305 : decode cM_shorts 305 = .ok (.aload_n 0, 1) := by decide +kernel
theorem dM_shorts_306 : decode cM_shorts 306 = .ok (.iload_n 2, 1) := by decide +kernel
theorem dM_shorts_307 : decode cM_shorts 307 = .ok (.iload 4, 2) := by decide +kernel
theorem dM_shorts_309 : decode cM_shorts 309 = .ok (.bipush 7, 2) := by decide +kernel
theorem dM_shorts_311 : decode cM_shorts 311 = .ok (.ishl, 1) := by decide +kernel
theorem dM_shorts_312 : decode cM_shorts 312 = .ok (.ior, 1) := by decide +kernel
theorem dM_shorts_313 : decode cM_shorts 313 = .ok (.aload_n 0, 1) := by decide +kernel
theorem dM_shorts_314 : decode cM_shorts 314 = .ok (.iconst 0, 1) := by decide +kernel
theorem dM_shorts_315 : decode cM_shorts 315 = .ok (.bipush 31, 2) := by decide +kernel
theorem dM_shorts_317 : decode cM_shorts 317 = .ok (.iconst 1, 1) := by decide +kernel
theorem dM_shorts_318 : decode cM_shorts 318 = .ok (.invokevirtual 594, 3) := by decide +kernel
theorem dM_shorts_321 : decode cM_shorts 321 = .ok (.bipush 31, 2) := by decide +kernel
theorem dM_shorts_323 : decode cM_shorts 323 = .ok (.iand, 1) := by decide +kernel
theorem dM_shorts_324 : decode cM_shorts 324 = .ok (.iconst 2, 1) := by decide +kernel
theorem dM_shorts_325 : decode cM_shorts 325 = .ok (.ishl, 1) := by decide +kernel
theorem dM_shorts_326 : decode cM_shorts 326 = .ok (.ior, 1) := by decide +kernel
theorem dM_shorts_327 : decode cM_shorts 327 = .ok (.invokevirtual 556, 3) := by decide +kernel
theorem dM_shorts_330 : decode cM_shorts 330 = .ok (.goto (11), 3) := by decide +kernel
theorem dM_shorts_333 : decode cM_shorts 333 = .ok (.aload_n 0, 1) := by decide +kernel
theorem dM_shorts_334 : decode cM_shorts 334 = .ok (.iload_n 1, 1) := by decide +kernel
theorem dM_shorts_335 : decode cM_shorts 335 = .ok (.iload_n 2, 1) := by decide +kernel
theorem dM_shorts_336 : decode cM_shorts 336 = .ok (.iload 4, 2) := by decide +kernel
theorem dM_shorts_338 : decode cM_shorts 338 = .ok (.invokevirtual 637, 3) := by decide +kernel
theorem dM_shorts_341 : decode cM_shorts 341 = .ok (.return_, 1) := by decide +kernel
abbrev cM_suffix : ByteArray := prog_14_method_73_code
def yM_suffix : MethodName := ⟨RM, "suffix", "()I"⟩
abbrev rm_suffix : Room := { frames := 0, cells := 0, slots := 0, locals := 0 }
theorem dM_suffix_0 : decode cM_suffix 0 = .ok (.aload_n 0, 1) := by decide +kernel
theorem dM_suffix_1 : decode cM_suffix 1 = .ok (.getfield 381, 3) := by decide +kernel
theorem dM_suffix_4 : decode cM_suffix 4 = .ok (.aload_n 0, 1) := by decide +kernel
theorem dM_suffix_5 : decode cM_suffix 5 = .ok (.getfield 378, 3) := by decide +kernel
theorem dM_suffix_8 : decode cM_suffix 8 = .ok (.isub, 1) := by decide +kernel
theorem dM_suffix_9 : decode cM_suffix 9 = .ok (.istore_n 1, 1) := by decide +kernel
theorem dM_suffix_10 : decode cM_suffix 10 = .ok (.iload_n 1, 1) := by decide +kernel
theorem dM_suffix_11 : decode cM_suffix 11 = .ok (.iconst 5, 1) := by decide +kernel
theorem dM_suffix_12 : decode cM_suffix 12 = .ok (.if_icmp .le (85), 3) := by decide +kernel
theorem dM_suffix_15 : decode cM_suffix 15 = .ok (.aload_n 0, 1) := by decide +kernel
theorem dM_suffix_16 : decode cM_suffix 16 = .ok (.getfield 327, 3) := by decide +kernel
theorem dM_suffix_19 : decode cM_suffix 19 = .ok (.aload_n 0, 1) := by decide +kernel
theorem dM_suffix_20 : decode cM_suffix 20 = .ok (.getfield 381, 3) := by decide +kernel
theorem dM_suffix_23 : decode cM_suffix 23 = .ok (.iconst 5, 1) := by decide +kernel
theorem dM_suffix_24 : decode cM_suffix 24 = .ok (.isub, 1) := by decide +kernel
theorem dM_suffix_25 : decode cM_suffix 25 = .ok (.caload, 1) := by decide +kernel
theorem dM_suffix_26 : decode cM_suffix 26 = .ok (.bipush 46, 2) := by decide +kernel
theorem dM_suffix_28 : decode cM_suffix 28 = .ok (.if_icmp .ne (69), 3) := by decide +kernel
theorem dM_suffix_31 : decode cM_suffix 31 = .ok (.aload_n 0, 1) := by decide +kernel
theorem dM_suffix_32 : decode cM_suffix 32 = .ok (.getfield 327, 3) := by decide +kernel
theorem dM_suffix_35 : decode cM_suffix 35 = .ok (.aload_n 0, 1) := by decide +kernel
theorem dM_suffix_36 : decode cM_suffix 36 = .ok (.getfield 381, 3) := by decide +kernel
theorem dM_suffix_39 : decode cM_suffix 39 = .ok (.iconst 4, 1) := by decide +kernel
theorem dM_suffix_40 : decode cM_suffix 40 = .ok (.isub, 1) := by decide +kernel
theorem dM_suffix_41 : decode cM_suffix 41 = .ok (.caload, 1) := by decide +kernel
theorem dM_suffix_42 : decode cM_suffix 42 = .ok (.bipush 97, 2) := by decide +kernel
theorem dM_suffix_44 : decode cM_suffix 44 = .ok (.if_icmp .ne (53), 3) := by decide +kernel
theorem dM_suffix_47 : decode cM_suffix 47 = .ok (.aload_n 0, 1) := by decide +kernel
theorem dM_suffix_48 : decode cM_suffix 48 = .ok (.getfield 327, 3) := by decide +kernel
theorem dM_suffix_51 : decode cM_suffix 51 = .ok (.aload_n 0, 1) := by decide +kernel
theorem dM_suffix_52 : decode cM_suffix 52 = .ok (.getfield 381, 3) := by decide +kernel
theorem dM_suffix_55 : decode cM_suffix 55 = .ok (.iconst 3, 1) := by decide +kernel
theorem dM_suffix_56 : decode cM_suffix 56 = .ok (.isub, 1) := by decide +kernel
theorem dM_suffix_57 : decode cM_suffix 57 = .ok (.caload, 1) := by decide +kernel
theorem dM_suffix_58 : decode cM_suffix 58 = .ok (.bipush 113, 2) := by decide +kernel
theorem dM_suffix_60 : decode cM_suffix 60 = .ok (.if_icmp .ne (37), 3) := by decide +kernel
theorem dM_suffix_63 : decode cM_suffix 63 = .ok (.aload_n 0, 1) := by decide +kernel
theorem dM_suffix_64 : decode cM_suffix 64 = .ok (.getfield 327, 3) := by decide +kernel
theorem dM_suffix_67 : decode cM_suffix 67 = .ok (.aload_n 0, 1) := by decide +kernel
theorem dM_suffix_68 : decode cM_suffix 68 = .ok (.getfield 381, 3) := by decide +kernel
theorem dM_suffix_71 : decode cM_suffix 71 = .ok (.iconst 2, 1) := by decide +kernel
theorem dM_suffix_72 : decode cM_suffix 72 = .ok (.isub, 1) := by decide +kernel
theorem dM_suffix_73 : decode cM_suffix 73 = .ok (.caload, 1) := by decide +kernel
theorem dM_suffix_74 : decode cM_suffix 74 = .ok (.bipush 114, 2) := by decide +kernel
theorem dM_suffix_76 : decode cM_suffix 76 = .ok (.if_icmp .ne (21), 3) := by decide +kernel
theorem dM_suffix_79 : decode cM_suffix 79 = .ok (.aload_n 0, 1) := by decide +kernel
theorem dM_suffix_80 : decode cM_suffix 80 = .ok (.getfield 327, 3) := by decide +kernel
theorem dM_suffix_83 : decode cM_suffix 83 = .ok (.aload_n 0, 1) := by decide +kernel
theorem dM_suffix_84 : decode cM_suffix 84 = .ok (.getfield 381, 3) := by decide +kernel
theorem dM_suffix_87 : decode cM_suffix 87 = .ok (.iconst 1, 1) := by decide +kernel
theorem dM_suffix_88 : decode cM_suffix 88 = .ok (.isub, 1) := by decide +kernel
theorem dM_suffix_89 : decode cM_suffix 89 = .ok (.caload, 1) := by decide +kernel
theorem dM_suffix_90 : decode cM_suffix 90 = .ok (.bipush 108, 2) := by decide +kernel
theorem dM_suffix_92 : decode cM_suffix 92 = .ok (.if_icmp .ne (5), 3) := by decide +kernel
theorem dM_suffix_95 : decode cM_suffix 95 = .ok (.iconst 5, 1) := by decide +kernel
theorem dM_suffix_96 : decode cM_suffix 96 = .ok (.ireturn, 1) := by decide +kernel
theorem dM_suffix_97 : decode cM_suffix 97 = .ok (.iload_n 1, 1) := by decide +kernel
theorem dM_suffix_98 : decode cM_suffix 98 = .ok (.iconst 3, 1) := by decide +kernel
theorem dM_suffix_99 : decode cM_suffix 99 = .ok (.if_icmp .le (39), 3) := by decide +kernel
theorem dM_suffix_102 : decode cM_suffix 102 = .ok (.aload_n 0, 1) := by decide +kernel
theorem dM_suffix_103 : decode cM_suffix 103 = .ok (.getfield 327, 3) := by decide +kernel
theorem dM_suffix_106 : decode cM_suffix 106 = .ok (.aload_n 0, 1) := by decide +kernel
theorem dM_suffix_107 : decode cM_suffix 107 = .ok (.getfield 381, 3) := by decide +kernel
theorem dM_suffix_110 : decode cM_suffix 110 = .ok (.iconst 2, 1) := by decide +kernel
theorem dM_suffix_111 : decode cM_suffix 111 = .ok (.isub, 1) := by decide +kernel
theorem dM_suffix_112 : decode cM_suffix 112 = .ok (.caload, 1) := by decide +kernel
theorem dM_suffix_113 : decode cM_suffix 113 = .ok (.bipush 97, 2) := by decide +kernel
theorem dM_suffix_115 : decode cM_suffix 115 = .ok (.if_icmp .ne (23), 3) := by decide +kernel
theorem dM_suffix_118 : decode cM_suffix 118 = .ok (.aload_n 0, 1) := by decide +kernel
theorem dM_suffix_119 : decode cM_suffix 119 = .ok (.getfield 327, 3) := by decide +kernel
theorem dM_suffix_122 : decode cM_suffix 122 = .ok (.aload_n 0, 1) := by decide +kernel
theorem dM_suffix_123 : decode cM_suffix 123 = .ok (.getfield 381, 3) := by decide +kernel
theorem dM_suffix_126 : decode cM_suffix 126 = .ok (.iconst 1, 1) := by decide +kernel
theorem dM_suffix_127 : decode cM_suffix 127 = .ok (.isub, 1) := by decide +kernel
theorem dM_suffix_128 : decode cM_suffix 128 = .ok (.caload, 1) := by decide +kernel
theorem dM_suffix_129 : decode cM_suffix 129 = .ok (.bipush 113, 2) := by decide +kernel
theorem dM_suffix_131 : decode cM_suffix 131 = .ok (.if_icmp .ne (7), 3) := by decide +kernel
theorem dM_suffix_134 : decode cM_suffix 134 = .ok (.iconst 1, 1) := by decide +kernel
theorem dM_suffix_135 : decode cM_suffix 135 = .ok (.goto (4), 3) := by decide +kernel
theorem dM_suffix_138 : decode cM_suffix 138 = .ok (.iconst 0, 1) := by decide +kernel
theorem dM_suffix_139 : decode cM_suffix 139 = .ok (.istore_n 2, 1) := by decide +kernel
theorem dM_suffix_140 : decode cM_suffix 140 = .ok (.iload_n 1, 1) := by decide +kernel
theorem dM_suffix_141 : decode cM_suffix 141 = .ok (.iconst 3, 1) := by decide +kernel
theorem dM_suffix_142 : decode cM_suffix 142 = .ok (.if_icmp .le (39), 3) := by decide +kernel
theorem dM_suffix_145 : decode cM_suffix 145 = .ok (.aload_n 0, 1) := by decide +kernel
theorem dM_suffix_146 : decode cM_suffix 146 = .ok (.getfield 327, 3) := by decide +kernel
theorem dM_suffix_149 : decode cM_suffix 149 = .ok (.aload_n 0, 1) := by decide +kernel
theorem dM_suffix_150 : decode cM_suffix 150 = .ok (.getfield 381, 3) := by decide +kernel
theorem dM_suffix_153 : decode cM_suffix 153 = .ok (.iconst 2, 1) := by decide +kernel
theorem dM_suffix_154 : decode cM_suffix 154 = .ok (.isub, 1) := by decide +kernel
theorem dM_suffix_155 : decode cM_suffix 155 = .ok (.caload, 1) := by decide +kernel
theorem dM_suffix_156 : decode cM_suffix 156 = .ok (.bipush 114, 2) := by decide +kernel
theorem dM_suffix_158 : decode cM_suffix 158 = .ok (.if_icmp .ne (23), 3) := by decide +kernel
theorem dM_suffix_161 : decode cM_suffix 161 = .ok (.aload_n 0, 1) := by decide +kernel
theorem dM_suffix_162 : decode cM_suffix 162 = .ok (.getfield 327, 3) := by decide +kernel
theorem dM_suffix_165 : decode cM_suffix 165 = .ok (.aload_n 0, 1) := by decide +kernel
theorem dM_suffix_166 : decode cM_suffix 166 = .ok (.getfield 381, 3) := by decide +kernel
theorem dM_suffix_169 : decode cM_suffix 169 = .ok (.iconst 1, 1) := by decide +kernel
theorem dM_suffix_170 : decode cM_suffix 170 = .ok (.isub, 1) := by decide +kernel
theorem dM_suffix_171 : decode cM_suffix 171 = .ok (.caload, 1) := by decide +kernel
theorem dM_suffix_172 : decode cM_suffix 172 = .ok (.bipush 108, 2) := by decide +kernel
theorem dM_suffix_174 : decode cM_suffix 174 = .ok (.if_icmp .ne (7), 3) := by decide +kernel
theorem dM_suffix_177 : decode cM_suffix 177 = .ok (.iconst 1, 1) := by decide +kernel
theorem dM_suffix_178 : decode cM_suffix 178 = .ok (.goto (4), 3) := by decide +kernel
theorem dM_suffix_181 : decode cM_suffix 181 = .ok (.iconst 0, 1) := by decide +kernel
theorem dM_suffix_182 : decode cM_suffix 182 = .ok (.istore_n 3, 1) := by decide +kernel
theorem dM_suffix_183 : decode cM_suffix 183 = .ok (.iload_n 2, 1) := by decide +kernel
theorem dM_suffix_184 : decode cM_suffix 184 = .ok (.ifCond .ne (7), 3) := by decide +kernel
theorem dM_suffix_187 : decode cM_suffix 187 = .ok (.iload_n 3, 1) := by decide +kernel
theorem dM_suffix_188 : decode cM_suffix 188 = .ok (.ifCond .eq (23), 3) := by decide +kernel
theorem dM_suffix_191 : decode cM_suffix 191 = .ok (.aload_n 0, 1) := by decide +kernel
theorem dM_suffix_192 : decode cM_suffix 192 = .ok (.getfield 327, 3) := by decide +kernel
theorem dM_suffix_195 : decode cM_suffix 195 = .ok (.aload_n 0, 1) := by decide +kernel
theorem dM_suffix_196 : decode cM_suffix 196 = .ok (.getfield 381, 3) := by decide +kernel
theorem dM_suffix_199 : decode cM_suffix 199 = .ok (.iconst 3, 1) := by decide +kernel
theorem dM_suffix_200 : decode cM_suffix 200 = .ok (.isub, 1) := by decide +kernel
theorem dM_suffix_201 : decode cM_suffix 201 = .ok (.caload, 1) := by decide +kernel
theorem dM_suffix_202 : decode cM_suffix 202 = .ok (.bipush 46, 2) := by decide +kernel
theorem dM_suffix_204 : decode cM_suffix 204 = .ok (.if_icmp .ne (7), 3) := by decide +kernel
theorem dM_suffix_207 : decode cM_suffix 207 = .ok (.iconst 3, 1) := by decide +kernel
theorem dM_suffix_208 : decode cM_suffix 208 = .ok (.goto (4), 3) := by decide +kernel
theorem dM_suffix_211 : decode cM_suffix 211 = .ok (.iconst 0, 1) := by decide +kernel
theorem dM_suffix_212 : decode cM_suffix 212 = .ok (.ireturn, 1) := by decide +kernel
abbrev cM_statement : ByteArray := prog_14_method_74_code
def yM_statement : MethodName := ⟨RM, "statement", "(II)V"⟩
abbrev rm_statement : Room := { frames := 11, cells := 0, slots := 0, locals := 260 }
theorem dM_statement_0 : decode cM_statement 0 = .ok (.aload_n 0, 1) := by decide +kernel
theorem dM_statement_1 : decode cM_statement 1 = .ok (.iload_n 2, 1) := by decide +kernel
theorem dM_statement_2 : decode cM_statement 2 = .ok (.putfield 531, 3) := by decide +kernel
theorem dM_statement_5 : decode cM_statement 5 = .ok (.aload_n 0, 1) := by decide +kernel
theorem dM_statement_6 : decode cM_statement 6 = .ok (.iload_n 1, 1) := by decide +kernel
theorem dM_statement_7 : decode cM_statement 7 = .ok (.putfield 384, 3) := by decide +kernel
theorem dM_statement_10 : decode cM_statement 10 = .ok (.aload_n 0, 1) := by decide +kernel
theorem dM_statement_11 : decode cM_statement 11 = .ok (.iconst 0, 1) := by decide +kernel
theorem dM_statement_12 : decode cM_statement 12 = .ok (.putfield 544, 3) := by decide +kernel
theorem dM_statement_15 : decode cM_statement 15 = .ok (.aload_n 0, 1) := by decide +kernel
theorem dM_statement_16 : decode cM_statement 16 = .ok (.iconst 0, 1) := by decide +kernel
theorem dM_statement_17 : decode cM_statement 17 = .ok (.putfield 550, 3) := by decide +kernel
theorem dM_statement_20 : decode cM_statement 20 = .ok (.aload_n 0, 1) := by decide +kernel
theorem dM_statement_21 : decode cM_statement 21 = .ok (.invokevirtual 426, 3) := by decide +kernel
theorem dM_statement_24 : decode cM_statement 24 = .ok (.aload_n 0, 1) := by decide +kernel
theorem dM_statement_25 : decode cM_statement 25 = .ok (.invokevirtual 654, 3) := by decide +kernel
theorem dM_statement_28 : decode cM_statement 28 = .ok (.istore_n 3, 1) := by decide +kernel
theorem dM_statement_29 : decode cM_statement 29 = .ok (.aload_n 0, 1) := by decide +kernel
theorem dM_statement_30 : decode cM_statement 30 = .ok (.aload_n 0, 1) := by decide +kernel
theorem dM_statement_31 : decode cM_statement 31 = .ok (.getfield 378, 3) := by decide +kernel
theorem dM_statement_34 : decode cM_statement 34 = .ok (.aload_n 0, 1) := by decide +kernel
theorem dM_statement_35 : decode cM_statement 35 = .ok (.getfield 381, 3) := by decide +kernel
theorem dM_statement_38 : decode cM_statement 38 = .ok (.invokevirtual 657, 3) := by decide +kernel
theorem dM_statement_41 : decode cM_statement 41 = .ok (.istore 4, 2) := by decide +kernel
theorem dM_statement_43 : decode cM_statement 43 = .ok (.iconst 0, 1) := by decide +kernel
theorem dM_statement_44 : decode cM_statement 44 = .ok (.istore 5, 2) := by decide +kernel
theorem dM_statement_46 : decode cM_statement 46 = .ok (.iload 4, 2) := by decide +kernel
theorem dM_statement_48 : decode cM_statement 48 = .ok (.ifCond .ge (93), 3) := by decide +kernel
theorem dM_statement_51 : decode cM_statement 51 = .ok (.iload_n 3, 1) := by decide +kernel
theorem dM_statement_52 : decode cM_statement 52 = .ok (.ifCond .le (89), 3) := by decide +kernel
theorem dM_statement_55 : decode cM_statement 55 = .ok (.aload_n 0, 1) := by decide +kernel
theorem dM_statement_56 : decode cM_statement 56 = .ok (.aload_n 0, 1) := by decide +kernel
theorem dM_statement_57 : decode cM_statement 57 = .ok (.getfield 378, 3) := by decide +kernel
theorem dM_statement_60 : decode cM_statement 60 = .ok (.aload_n 0, 1) := by decide +kernel
theorem dM_statement_61 : decode cM_statement 61 = .ok (.getfield 381, 3) := by decide +kernel
theorem dM_statement_64 : decode cM_statement 64 = .ok (.iload_n 3, 1) := by decide +kernel
theorem dM_statement_65 : decode cM_statement 65 = .ok (.isub, 1) := by decide +kernel
theorem dM_statement_66 : decode cM_statement 66 = .ok (.invokevirtual 657, 3) := by decide +kernel
theorem dM_statement_69 : decode cM_statement 69 = .ok (.istore 4, 2) := by decide +kernel
theorem dM_statement_71 : decode cM_statement 71 = .ok (.iload_n 3, 1) := by decide +kernel
theorem dM_statement_72 : decode cM_statement 72 = .ok (.iconst 5, 1) := by decide +kernel
theorem dM_statement_73 : decode cM_statement 73 = .ok (.if_icmp .ne (9), 3) := by decide +kernel
theorem dM_statement_76 : decode cM_statement 76 = .ok (.ldc_w 660, 3) := by decide +kernel
theorem dM_statement_79 : decode cM_statement 79 = .ok (.goto (28), 3) := by decide +kernel
theorem dM_statement_82 : decode cM_statement 82 = .ok (.aload_n 0, 1) := by decide +kernel
theorem dM_statement_83 : decode cM_statement 83 = .ok (.getfield 327, 3) := by decide +kernel
theorem dM_statement_86 : decode cM_statement 86 = .ok (.aload_n 0, 1) := by decide +kernel
theorem dM_statement_87 : decode cM_statement 87 = .ok (.getfield 381, 3) := by decide +kernel
theorem dM_statement_90 : decode cM_statement 90 = .ok (.iconst 1, 1) := by decide +kernel
theorem dM_statement_91 : decode cM_statement 91 = .ok (.isub, 1) := by decide +kernel
theorem dM_statement_92 : decode cM_statement 92 = .ok (.caload, 1) := by decide +kernel
theorem dM_statement_93 : decode cM_statement 93 = .ok (.bipush 113, 2) := by decide +kernel
theorem dM_statement_95 : decode cM_statement 95 = .ok (.if_icmp .ne (9), 3) := by decide +kernel
theorem dM_statement_98 : decode cM_statement 98 = .ok (.ldc_w 661, 3) := by decide +kernel
theorem dM_statement_101 : decode cM_statement 101 = .ok (.goto (6), 3) := by decide +kernel
theorem dM_statement_104 : decode cM_statement 104 = .ok (.ldc_w 662, 3) := by decide +kernel
theorem dM_statement_107 : decode cM_statement 107 = .ok (.istore 5, 2) := by decide +kernel
theorem dM_statement_109 : decode cM_statement 109 = .ok (.iload 4, 2) := by decide +kernel
theorem dM_statement_111 : decode cM_statement 111 = .ok (.ifCond .lt (30), 3) := by decide +kernel
theorem dM_statement_114 : decode cM_statement 114 = .ok (.aload_n 0, 1) := by decide +kernel
theorem dM_statement_115 : decode cM_statement 115 = .ok (.getfield 269, 3) := by decide +kernel
theorem dM_statement_118 : decode cM_statement 118 = .ok (.iload 4, 2) := by decide +kernel
theorem dM_statement_120 : decode cM_statement 120 = .ok (.baload, 1) := by decide +kernel
theorem dM_statement_121 : decode cM_statement 121 = .ok (.bipush 9, 2) := by decide +kernel
theorem dM_statement_123 : decode cM_statement 123 = .ok (.if_icmp .eq (18), 3) := by decide +kernel
theorem dM_statement_126 : decode cM_statement 126 = .ok (.aload_n 0, 1) := by decide +kernel
theorem dM_statement_127 : decode cM_statement 127 = .ok (.getfield 269, 3) := by decide +kernel
theorem dM_statement_130 : decode cM_statement 130 = .ok (.iload 4, 2) := by decide +kernel
theorem dM_statement_132 : decode cM_statement 132 = .ok (.baload, 1) := by decide +kernel
theorem dM_statement_133 : decode cM_statement 133 = .ok (.bipush 10, 2) := by decide +kernel
theorem dM_statement_135 : decode cM_statement 135 = .ok (.if_icmp .eq (6), 3) := by decide +kernel
theorem dM_statement_138 : decode cM_statement 138 = .ok (.iconst (-1), 1) := by decide +kernel
theorem dM_statement_139 : decode cM_statement 139 = .ok (.istore 4, 2) := by decide +kernel
theorem dM_statement_141 : decode cM_statement 141 = .ok (.iload 4, 2) := by decide +kernel
theorem dM_statement_143 : decode cM_statement 143 = .ok (.ifCond .ge (9), 3) := by decide +kernel
theorem dM_statement_146 : decode cM_statement 146 = .ok (.aload_n 0, 1) := by decide +kernel
theorem dM_statement_147 : decode cM_statement 147 = .ok (.iconst 2, 1) := by decide +kernel
theorem dM_statement_148 : decode cM_statement 148 = .ok (.invokevirtual 429, 3) := by decide +kernel
theorem dM_statement_151 : decode cM_statement 151 = .ok (.return_, 1) := by decide +kernel
theorem dM_statement_152 : decode cM_statement 152 = .ok (.aload_n 0, 1) := by decide +kernel
theorem dM_statement_153 : decode cM_statement 153 = .ok (.getfield 269, 3) := by decide +kernel
theorem dM_statement_156 : decode cM_statement 156 = .ok (.iload 4, 2) := by decide +kernel
theorem dM_statement_158 : decode cM_statement 158 = .ok (.baload, 1) := by decide +kernel
theorem dM_statement_159 : decode cM_statement 159 = .ok (.istore 6, 2) := by decide +kernel
theorem dM_statement_161 : decode cM_statement 161 = .ok (.aload_n 0, 1) := by decide +kernel
theorem dM_statement_162 : decode cM_statement 162 = .ok (.getfield 319, 3) := by decide +kernel
theorem dM_statement_165 : decode cM_statement 165 = .ok (.iload 4, 2) := by decide +kernel
theorem dM_statement_167 : decode cM_statement 167 = .ok (.iaload, 1) := by decide +kernel
theorem dM_statement_168 : decode cM_statement 168 = .ok (.iload 5, 2) := by decide +kernel
theorem dM_statement_170 : decode cM_statement 170 = .ok (.ior, 1) := by decide +kernel
theorem dM_statement_171 : decode cM_statement 171 = .ok (.istore 7, 2) := by decide +kernel
theorem dM_statement_173 : decode cM_statement 173 = .ok (.iload 6, 2) := by decide +kernel
theorem dM_statement_175 : decode cM_statement 175 = .ok (.bipush 39, 2) := by decide +kernel
theorem dM_statement_177 : decode cM_statement 177 = .ok (.if_icmp .le (14), 3) := by decide +kernel
theorem dM_statement_180 : decode cM_statement 180 = .ok (.aload_n 0, 1) := by decide +kernel
theorem dM_statement_181 : decode cM_statement 181 = .ok (.iload 6, 2) := by decide +kernel
theorem dM_statement_183 : decode cM_statement 183 = .ok (.iload 7, 2) := by decide +kernel
theorem dM_statement_185 : decode cM_statement 185 = .ok (.invokevirtual 663, 3) := by decide +kernel
theorem dM_statement_188 : decode cM_statement 188 = .ok (.goto (143), 3) := by decide +kernel
theorem dM_statement_191 : decode cM_statement 191 = .ok (.iload 6, 2) := by decide +kernel
theorem dM_statement_193 : decode cM_statement 193 = .ok (.bipush 12, 2) := by decide +kernel
theorem dM_statement_195 : decode cM_statement 195 = .ok (.if_icmp .ne (12), 3) := by decide +kernel
theorem dM_statement_198 : decode cM_statement 198 = .ok (.aload_n 0, 1) := by decide +kernel
theorem dM_statement_199 : decode cM_statement 199 = .ok (.iload 7, 2) := by decide +kernel
theorem dM_statement_201 : decode cM_statement 201 = .ok (.invokevirtual 579, 3) := by decide +kernel
theorem dM_statement_204 : decode cM_statement 204 = .ok (.goto (127), 3) := by decide +kernel
theorem dM_statement_207 : decode cM_statement 207 = .ok (.iload 6, 2) := by decide +kernel
theorem dM_statement_209 : decode cM_statement 209 = .ok (.bipush 16, 2) := by decide +kernel
theorem dM_statement_211 : decode cM_statement 211 = .ok (.if_icmp .ne (12), 3) := by decide +kernel
theorem dM_statement_214 : decode cM_statement 214 = .ok (.aload_n 0, 1) := by decide +kernel
theorem dM_statement_215 : decode cM_statement 215 = .ok (.iload 7, 2) := by decide +kernel
theorem dM_statement_217 : decode cM_statement 217 = .ok (.invokevirtual 556, 3) := by decide +kernel
theorem dM_statement_220 : decode cM_statement 220 = .ok (.goto (111), 3) := by decide +kernel
theorem dM_statement_223 : decode cM_statement 223 = .ok (.iload 6, 2) := by decide +kernel
theorem dM_statement_225 : decode cM_statement 225 = .ok (.bipush 8, 2) := by decide +kernel
theorem dM_statement_227 : decode cM_statement 227 = .ok (.if_icmp .eq (10), 3) := by decide +kernel
theorem dM_statement_230 : decode cM_statement 230 = .ok (.iload 6, 2) := by decide +kernel
theorem dM_statement_232 : decode cM_statement 232 = .ok (.bipush 34, 2) := by decide +kernel
theorem dM_statement_234 : decode cM_statement 234 = .ok (.if_icmp .ne (14), 3) := by decide +kernel
theorem dM_statement_237 : decode cM_statement 237 = .ok (.aload_n 0, 1) := by decide +kernel
theorem dM_statement_238 : decode cM_statement 238 = .ok (.iload 6, 2) := by decide +kernel
theorem dM_statement_240 : decode cM_statement 240 = .ok (.iload 7, 2) := by decide +kernel
theorem dM_statement_242 : decode cM_statement 242 = .ok (.invokevirtual 667, 3) := by decide +kernel
theorem dM_statement_245 : decode cM_statement 245 = .ok (.goto (86), 3) := by decide +kernel
theorem dM_statement_248 : decode cM_statement 248 = .ok (.iload 6, 2) := by decide +kernel
theorem dM_statement_250 : decode cM_statement 250 = .ok (.bipush 7, 2) := by decide +kernel
theorem dM_statement_252 : decode cM_statement 252 = .ok (.if_icmp .eq (17), 3) := by decide +kernel
theorem dM_statement_255 : decode cM_statement 255 = .ok (.iload 6, 2) := by decide +kernel
theorem dM_statement_257 : decode cM_statement 257 = .ok (.bipush 34, 2) := by decide +kernel
theorem dM_statement_259 : decode cM_statement 259 = .ok (.if_icmp .le (21), 3) := by decide +kernel
theorem dM_statement_262 : decode cM_statement 262 = .ok (.iload 6, 2) := by decide +kernel
theorem dM_statement_264 : decode cM_statement 264 = .ok (.bipush 38, 2) := by decide +kernel
theorem dM_statement_266 : decode cM_statement 266 = .ok (.if_icmp .ge (14), 3) := by decide +kernel
theorem dM_statement_269 : decode cM_statement 269 = .ok (.aload_n 0, 1) := by decide +kernel
theorem dM_statement_270 : decode cM_statement 270 = .ok (.iload 6, 2) := by decide +kernel
theorem dM_statement_272 : decode cM_statement 272 = .ok (.iload 7, 2) := by decide +kernel
theorem dM_statement_274 : decode cM_statement 274 = .ok (.invokevirtual 670, 3) := by decide +kernel
theorem dM_statement_277 : decode cM_statement 277 = .ok (.goto (54), 3) := by decide +kernel
theorem dM_statement_280 : decode cM_statement 280 = .ok (.iload 6, 2) := by decide +kernel
theorem dM_statement_282 : decode cM_statement 282 = .ok (.bipush 12, 2) := by decide +kernel
theorem dM_statement_284 : decode cM_statement 284 = .ok (.if_icmp .lt (10), 3) := by decide +kernel
theorem dM_statement_287 : decode cM_statement 287 = .ok (.iload 6, 2) := by decide +kernel
theorem dM_statement_289 : decode cM_statement 289 = .ok (.bipush 30, 2) := by decide +kernel
theorem dM_statement_291 : decode cM_statement 291 = .ok (.if_icmp .ne (14), 3) := by decide +kernel
theorem dM_statement_294 : decode cM_statement 294 = .ok (.aload_n 0, 1) := by decide +kernel
theorem dM_statement_295 : decode cM_statement 295 = .ok (.iload 6, 2) := by decide +kernel
theorem dM_statement_297 : decode cM_statement 297 = .ok (.iload 7, 2) := by decide +kernel
theorem dM_statement_299 : decode cM_statement 299 = .ok (.invokevirtual 673, 3) := by decide +kernel
theorem dM_statement_302 : decode cM_statement 302 = .ok (.goto (29), 3) := by decide +kernel
theorem dM_statement_305 : decode cM_statement 305 = .ok (.iload 6, 2) := by decide +kernel
theorem dM_statement_307 : decode cM_statement 307 = .ok (.bipush 30, 2) := by decide +kernel
theorem dM_statement_309 : decode cM_statement 309 = .ok (.if_icmp .ge (14), 3) := by decide +kernel
theorem dM_statement_312 : decode cM_statement 312 = .ok (.aload_n 0, 1) := by decide +kernel
theorem dM_statement_313 : decode cM_statement 313 = .ok (.iload 6, 2) := by decide +kernel
theorem dM_statement_315 : decode cM_statement 315 = .ok (.iload 7, 2) := by decide +kernel
theorem dM_statement_317 : decode cM_statement 317 = .ok (.invokevirtual 676, 3) := by decide +kernel
theorem dM_statement_320 : decode cM_statement 320 = .ok (.goto (11), 3) := by decide +kernel
theorem dM_statement_323 : decode cM_statement 323 = .ok (.aload_n 0, 1) := by decide +kernel
theorem dM_statement_324 : decode cM_statement 324 = .ok (.iload 6, 2) := by decide +kernel
theorem dM_statement_326 : decode cM_statement 326 = .ok (.iload 7, 2) := by decide +kernel
theorem dM_statement_328 : decode cM_statement 328 = .ok (.invokevirtual 679, 3) := by decide +kernel
theorem dM_statement_331 : decode cM_statement 331 = .ok (.aload_n 0, 1) := by decide +kernel
theorem dM_statement_332 : decode cM_statement 332 = .ok (.getfield 531, 3) := by decide +kernel
theorem dM_statement_335 : decode cM_statement 335 = .ok (.ifCond .ne (16), 3) := by decide +kernel
theorem dM_statement_338 : decode cM_statement 338 = .ok (.aload_n 0, 1) := by decide +kernel
theorem dM_statement_339 : decode cM_statement 339 = .ok (.getfield 420, 3) := by decide +kernel
theorem dM_statement_342 : decode cM_statement 342 = .ok (.ifCond .ne (9), 3) := by decide +kernel
theorem dM_statement_345 : decode cM_statement 345 = .ok (.aload_n 0, 1) := by decide +kernel
theorem dM_statement_346 : decode cM_statement 346 = .ok (.iconst 0, 1) := by decide +kernel
theorem dM_statement_347 : decode cM_statement 347 = .ok (.invokevirtual 515, 3) := by decide +kernel
theorem dM_statement_350 : decode cM_statement 350 = .ok (.pop, 1) := by decide +kernel
theorem dM_statement_351 : decode cM_statement 351 = .ok (.return_, 1) := by decide +kernel
theorem gM_branches_670 : GoodIn lw_gd (wsV RM 670 RM yM_branches (.code yM_branches cM_branches 6 none :: lw_gd)) := lw_GV q_2031 q_2028 q_2030 qs_98 q_23
theorem gM_directive_663 : GoodIn lw_gd (wsV RM 663 RM yM_directive (.code yM_directive cM_directive 6 none :: lw_gd)) := lw_GV q_1904 q_1901 q_1903 qs_71 q_23
theorem gM_jumps_667 : GoodIn lw_gd (wsV RM 667 RM yM_jumps (.code yM_jumps cM_jumps 7 none :: lw_gd)) := lw_GV q_1996 q_1993 q_1995 qs_92 q_23
theorem gM_longs_673 : GoodIn lw_gd (wsV RM 673 RM yM_longs (.code yM_longs cM_longs 6 none :: lw_gd)) := lw_GV q_2049 q_2046 q_2048 qs_101 q_23
theorem gM_named_657 : GoodIn lw_gd (wsV RM 657 RM yM_named (.code yM_named cM_named 6 (some .int) :: lw_gd)) := lw_GV q_1897 q_1894 q_1896 qs_70 q_23
theorem gM_not_626 : GoodIn lw_gd (wsV RM 626 RM yM_not (.code yM_not cM_not 3 (some .int) :: lw_gd)) := lw_GV q_2074 q_2071 q_2073 qs_107 q_23
theorem gM_others_679 : GoodIn lw_gd (wsV RM 679 RM yM_others (.code yM_others cM_others 7 none :: lw_gd)) := lw_GV q_2093 q_2090 q_2092 qs_111 q_23
theorem gM_plainSix_633 : GoodIn lw_gd (wsV RM 633 RM yM_plainSix (.code yM_plainSix cM_plainSix 5 none :: lw_gd)) := lw_GV q_2085 q_2082 q_2084 qs_109 q_23
theorem gM_shorts_676 : GoodIn lw_gd (wsV RM 676 RM yM_shorts (.code yM_shorts cM_shorts 6 none :: lw_gd)) := lw_GV q_2062 q_2059 q_2061 qs_104 q_23
theorem gM_smalls_629 : GoodIn lw_gd (wsV RM 629 RM yM_smalls (.code yM_smalls cM_smalls 6 none :: lw_gd)) := lw_GV q_2078 q_2075 q_2077 qs_108 q_23
theorem gM_stacked_637 : GoodIn lw_gd (wsV RM 637 RM yM_stacked (.code yM_stacked cM_stacked 5 none :: lw_gd)) := lw_GV q_2089 q_2086 q_2088 qs_110 q_23
theorem gM_suffix_654 : GoodIn lw_gd (wsV RM 654 RM yM_suffix (.code yM_suffix cM_suffix 4 (some .int) :: lw_gd)) := lw_GV q_1893 q_1890 q_1892 qs_69 q_23
section
variable {p : Program} {l : Launch} {e : Env} {s : State} {m : MethodId} {args : Array Value} {below : List Frame} {meth : Method} {c : Code} {D : va_G} {dA : Nat → ClassId} {h : Nat → Nat} {A : Nat → Prop}
def M_stacked_84 (N : Nat) (t1 : Int32) (σ : MS) : Option (Int32 × MS) :=
  cl (M_half  t1 σ) (fun r1 σ2 => some ((0 : Int32), σ2))
set_option maxHeartbeats 4000000 in
set_option maxRecDepth 100000 in
theorem bM_stacked_84 (N : Nat)  {r : Int32} {σ' : MS} (C : CxM p s m args meth c cM_stacked 5 none D dA A) (t1 : Int32) (σ : MS) (hM : M_stacked_84 N  t1 σ = some (r, σ')) (H : Heap) (locs : List Loc) (hW : WdM D dA h A s σ H locs) (ls : Array Slot) (hl : lv_has ls 5 []) : W p l e rm_stacked s m args below meth c H locs 0 0 (MQ below (QM D dA h A σ' none) args s 0 0 A) (F0 m 84 ls [.int t1, .ref (h 0)]) := by
  have hx := C.1.1
  have hb := C.1.2.1
  have hown := C.1.2.2.2.2.1
  have hT := C.1.2.2.2.2.2.1
  unfold M_stacked_84 at hM
  obtain ⟨r1, σ2, hr1, hM⟩ := cl_some hM
  refine x_callMv (pc := 84) C hW (kM_half l D dA h  t1 _ hr1) gM_half_556 ⟨rfl, by decide, by decide, by decide +kernel⟩ ⟨rfl, rfl⟩ ⟨by decide, by decide⟩ ⟨by decide, by decide⟩ (As := [.int t1]) (n := 1) rfl hl.1 rfl (Nat.le_of_ble_eq_true rfl) dM_stacked_84 (fun H locs hW => ?_)
  obtain ⟨rfl, rfl⟩ := sm_p hM
  exact x_retMv (pc := 87) C rfl hW dM_stacked_87
def M_stacked (N : Nat) (x1 : Int32) (x2 : Int32) (x3 : Int32) (σ : MS) : Option (Int32 × MS) :=
  cl (M_within N (0 : Int32) (252 : Int32) (4 : Int32) σ) (fun r1 σ2 => (if x1 = (26 : Int32) then cr (M_bits  r1 (5 : Int32) (5 : Int32) (12 : Int32)) (fun r5 => cr (M_bits  r1 (4 : Int32) (2 : Int32) (4 : Int32)) (fun r6 => cr (M_bits  r1 (7 : Int32) (6 : Int32) (2 : Int32)) (fun r7 => M_stacked_84 N  ((((x2 ||| (x3 <<< ((7 : Int32) &&& 31))) ||| r5) ||| r6) ||| r7) σ2))) else cr (M_bits  r1 (5 : Int32) (2 : Int32) (9 : Int32)) (fun r3 => cr (M_bits  r1 (7 : Int32) (6 : Int32) (7 : Int32)) (fun r4 => M_stacked_84 N  (((x2 ||| (x3 <<< ((2 : Int32) &&& 31))) ||| r3) ||| r4) σ2))))
set_option maxHeartbeats 4000000 in
set_option maxRecDepth 100000 in
theorem bM_stacked_0 (N : Nat)  {r : Int32} {σ' : MS} (C : CxM p s m args meth c cM_stacked 5 none D dA A) (x1 : Int32) (x2 : Int32) (x3 : Int32) (σ : MS) (hM : M_stacked N  x1 x2 x3 σ = some (r, σ')) (H : Heap) (locs : List Loc) (hW : WdM D dA h A s σ H locs) (ls : Array Slot) (hl : lv_has ls 5 [(0, .ref (h 0)), (1, .int x1), (2, .int x2), (3, .int x3)]) : W p l e rm_stacked s m args below meth c H locs 0 0 (MQ below (QM D dA h A σ' none) args s 0 0 A) (F0 m 0 ls []) := by
  have hx := C.1.1
  have hb := C.1.2.1
  have hown := C.1.2.2.2.2.1
  have hT := C.1.2.2.2.2.2.1
  unfold M_stacked at hM
  refine lv_aload_n (pc := 0) hx hb dM_stacked_0 rfl (lv_at hl 0 rfl) ?_
  refine lv_iconst (pc := 1) (v := 0) hx hb dM_stacked_1 (by decide) ?_
  refine lv_sipush (pc := 2) (v := 252) hx hb dM_stacked_2 (by decide) ?_
  refine lv_iconst (pc := 5) (v := 4) hx hb dM_stacked_5 (by decide) ?_
  obtain ⟨r1, σ2, hr1, hM⟩ := cl_some hM
  refine x_callMi (pc := 6) C hW (kM_within l D dA h N (0 : Int32) (252 : Int32) (4 : Int32) _ hr1) gM_within_594 ⟨rfl, by decide, by decide, by decide +kernel⟩ ⟨rfl, rfl⟩ ⟨by decide, by decide⟩ ⟨by decide, by decide⟩ (As := [.int (0 : Int32), .int (252 : Int32), .int (4 : Int32)]) (n := 3) rfl hl.1 rfl (Nat.le_of_ble_eq_true rfl) dM_stacked_6 (fun H locs hW => ?_)
  refine lv_istore (pc := 9) (lv' := [(4, .int r1), (0, .ref (h 0)), (1, .int x1), (2, .int x2), (3, .int x3)]) hx hb dM_stacked_9 hl (by decide) rfl (fun ls hl => ?_)
  refine lv_aload_n (pc := 11) hx hb dM_stacked_11 rfl (lv_at hl 1 rfl) ?_
  refine lv_iload_n (pc := 12) hx hb dM_stacked_12 rfl (lv_at hl 2 rfl) ?_
  refine lv_bipush (pc := 13) (v := 26) hx hb dM_stacked_13 (by decide) ?_
  refine lv_icmp_ne (pc := 15) (tgt := 57) hx hb dM_stacked_15 (by decide) (fun hc => ?_) (fun hc => ?_)
  · replace hM := it_f hc hM
    refine lv_iload_n (pc := 57) hx hb dM_stacked_57 rfl (lv_at hl 3 rfl) ?_
    refine lv_iload_n (pc := 58) hx hb dM_stacked_58 rfl (lv_at hl 4 rfl) ?_
    refine lv_iconst (pc := 59) (v := 2) hx hb dM_stacked_59 (by decide) ?_
    refine lv_ishl (pc := 60) hx hb dM_stacked_60 ?_
    refine lv_ior (pc := 61) hx hb dM_stacked_61 ?_
    refine lv_iload (pc := 62) hx hb dM_stacked_62 (lv_at hl 0 rfl) ?_
    refine lv_iconst (pc := 64) (v := 5) hx hb dM_stacked_64 (by decide) ?_
    refine lv_iconst (pc := 65) (v := 2) hx hb dM_stacked_65 (by decide) ?_
    refine lv_bipush (pc := 66) (v := 9) hx hb dM_stacked_66 (by decide) ?_
    obtain ⟨r3, hr3, hM⟩ := cr_some hM
    refine x_callSi (pc := 68) C.1 (kM_bits l  r1 (5 : Int32) (2 : Int32) (9 : Int32) hr3) gM_bits_559 ⟨rfl, by decide, by decide, by decide +kernel⟩ ⟨rfl, rfl⟩ ⟨by decide, by decide⟩ ⟨by decide, by decide⟩ (As := [.int r1, .int (5 : Int32), .int (2 : Int32), .int (9 : Int32)]) (n := 4) rfl hl.1 rfl (Nat.le_of_ble_eq_true rfl) dM_stacked_68 ?_
    refine lv_ior (pc := 71) hx hb dM_stacked_71 ?_
    refine lv_iload (pc := 72) hx hb dM_stacked_72 (lv_at hl 0 rfl) ?_
    refine lv_bipush (pc := 74) (v := 7) hx hb dM_stacked_74 (by decide) ?_
    refine lv_bipush (pc := 76) (v := 6) hx hb dM_stacked_76 (by decide) ?_
    refine lv_bipush (pc := 78) (v := 7) hx hb dM_stacked_78 (by decide) ?_
    obtain ⟨r4, hr4, hM⟩ := cr_some hM
    refine x_callSi (pc := 80) C.1 (kM_bits l  r1 (7 : Int32) (6 : Int32) (7 : Int32) hr4) gM_bits_559 ⟨rfl, by decide, by decide, by decide +kernel⟩ ⟨rfl, rfl⟩ ⟨by decide, by decide⟩ ⟨by decide, by decide⟩ (As := [.int r1, .int (7 : Int32), .int (6 : Int32), .int (7 : Int32)]) (n := 4) rfl hl.1 rfl (Nat.le_of_ble_eq_true rfl) dM_stacked_80 ?_
    refine lv_ior (pc := 83) hx hb dM_stacked_83 ?_
    exact bM_stacked_84 N  C  _ _ hM _ _ hW _ (lv_sub hl [] rfl)
  · replace hM := it_t hc hM
    refine lv_iload_n (pc := 18) hx hb dM_stacked_18 rfl (lv_at hl 3 rfl) ?_
    refine lv_iload_n (pc := 19) hx hb dM_stacked_19 rfl (lv_at hl 4 rfl) ?_
    refine lv_bipush (pc := 20) (v := 7) hx hb dM_stacked_20 (by decide) ?_
    refine lv_ishl (pc := 22) hx hb dM_stacked_22 ?_
    refine lv_ior (pc := 23) hx hb dM_stacked_23 ?_
    refine lv_iload (pc := 24) hx hb dM_stacked_24 (lv_at hl 0 rfl) ?_
    refine lv_iconst (pc := 26) (v := 5) hx hb dM_stacked_26 (by decide) ?_
    refine lv_iconst (pc := 27) (v := 5) hx hb dM_stacked_27 (by decide) ?_
    refine lv_bipush (pc := 28) (v := 12) hx hb dM_stacked_28 (by decide) ?_
    obtain ⟨r5, hr5, hM⟩ := cr_some hM
    refine x_callSi (pc := 30) C.1 (kM_bits l  r1 (5 : Int32) (5 : Int32) (12 : Int32) hr5) gM_bits_559 ⟨rfl, by decide, by decide, by decide +kernel⟩ ⟨rfl, rfl⟩ ⟨by decide, by decide⟩ ⟨by decide, by decide⟩ (As := [.int r1, .int (5 : Int32), .int (5 : Int32), .int (12 : Int32)]) (n := 4) rfl hl.1 rfl (Nat.le_of_ble_eq_true rfl) dM_stacked_30 ?_
    refine lv_ior (pc := 33) hx hb dM_stacked_33 ?_
    refine lv_iload (pc := 34) hx hb dM_stacked_34 (lv_at hl 0 rfl) ?_
    refine lv_iconst (pc := 36) (v := 4) hx hb dM_stacked_36 (by decide) ?_
    refine lv_iconst (pc := 37) (v := 2) hx hb dM_stacked_37 (by decide) ?_
    refine lv_iconst (pc := 38) (v := 4) hx hb dM_stacked_38 (by decide) ?_
    obtain ⟨r6, hr6, hM⟩ := cr_some hM
    refine x_callSi (pc := 39) C.1 (kM_bits l  r1 (4 : Int32) (2 : Int32) (4 : Int32) hr6) gM_bits_559 ⟨rfl, by decide, by decide, by decide +kernel⟩ ⟨rfl, rfl⟩ ⟨by decide, by decide⟩ ⟨by decide, by decide⟩ (As := [.int r1, .int (4 : Int32), .int (2 : Int32), .int (4 : Int32)]) (n := 4) rfl hl.1 rfl (Nat.le_of_ble_eq_true rfl) dM_stacked_39 ?_
    refine lv_ior (pc := 42) hx hb dM_stacked_42 ?_
    refine lv_iload (pc := 43) hx hb dM_stacked_43 (lv_at hl 0 rfl) ?_
    refine lv_bipush (pc := 45) (v := 7) hx hb dM_stacked_45 (by decide) ?_
    refine lv_bipush (pc := 47) (v := 6) hx hb dM_stacked_47 (by decide) ?_
    refine lv_iconst (pc := 49) (v := 2) hx hb dM_stacked_49 (by decide) ?_
    obtain ⟨r7, hr7, hM⟩ := cr_some hM
    refine x_callSi (pc := 50) C.1 (kM_bits l  r1 (7 : Int32) (6 : Int32) (2 : Int32) hr7) gM_bits_559 ⟨rfl, by decide, by decide, by decide +kernel⟩ ⟨rfl, rfl⟩ ⟨by decide, by decide⟩ ⟨by decide, by decide⟩ (As := [.int r1, .int (7 : Int32), .int (6 : Int32), .int (2 : Int32)]) (n := 4) rfl hl.1 rfl (Nat.le_of_ble_eq_true rfl) dM_stacked_50 ?_
    refine lv_ior (pc := 53) hx hb dM_stacked_53 ?_
    refine lv_goto (pc := 54) (tgt := 84) hx hb dM_stacked_54 (by decide) ?_
    exact bM_stacked_84 N  C  _ _ hM _ _ hW _ (lv_sub hl [] rfl)
theorem kM_stacked (l : Launch) (D : va_G) (dA : Nat → ClassId) (h : Nat → Nat) (N : Nat) (x1 : Int32) (x2 : Int32) (x3 : Int32) (σ : MS) {r : Int32} {σ' : MS} (hM : M_stacked N x1 x2 x3 σ = some (r, σ')) : KM l D dA yM_stacked cM_stacked 5 none rm_stacked h σ [.int x1, .int x2, .int x3] none σ' := x_enterM rfl (Nat.le_of_ble_eq_true rfl) (fun p e s m args below meth c A C hW ls hl => bM_stacked_0 N C x1 x2 x3 σ hM s.heap [] hW ls hl)
def M_shorts_341 (N : Nat)  (σ : MS) : Option (Int32 × MS) :=
  some ((0 : Int32), σ)
set_option maxHeartbeats 4000000 in
set_option maxRecDepth 100000 in
theorem bM_shorts_341 (N : Nat)  {r : Int32} {σ' : MS} (C : CxM p s m args meth c cM_shorts 6 none D dA A)  (σ : MS) (hM : M_shorts_341 N   σ = some (r, σ')) (H : Heap) (locs : List Loc) (hW : WdM D dA h A s σ H locs) (ls : Array Slot) (hl : lv_has ls 6 []) : W p l e rm_shorts s m args below meth c H locs 0 0 (MQ below (QM D dA h A σ' none) args s 0 0 A) (F0 m 341 ls []) := by
  have hx := C.1.1
  have hb := C.1.2.1
  have hown := C.1.2.2.2.2.1
  have hT := C.1.2.2.2.2.2.1
  unfold M_shorts_341 at hM
  obtain ⟨rfl, rfl⟩ := sm_p hM
  exact x_retMv (pc := 341) C rfl hW dM_shorts_341
def M_shorts_287 (N : Nat) (x2 : Int32) (x4 : Int32) (x5 : Int32) (σ : MS) : Option (Int32 × MS) :=
  cl (M_plainSix N x2 x4 x5 σ) (fun r1 σ2 => M_shorts_341 N  σ2)
set_option maxHeartbeats 4000000 in
set_option maxRecDepth 100000 in
theorem bM_shorts_287 (N : Nat)  {r : Int32} {σ' : MS} (C : CxM p s m args meth c cM_shorts 6 none D dA A) (x2 : Int32) (x4 : Int32) (x5 : Int32) (σ : MS) (hM : M_shorts_287 N  x2 x4 x5 σ = some (r, σ')) (H : Heap) (locs : List Loc) (hW : WdM D dA h A s σ H locs) (ls : Array Slot) (hl : lv_has ls 6 [(0, .ref (h 0)), (2, .int x2), (4, .int x4), (5, .int x5)]) : W p l e rm_shorts s m args below meth c H locs 0 0 (MQ below (QM D dA h A σ' none) args s 0 0 A) (F0 m 287 ls []) := by
  have hx := C.1.1
  have hb := C.1.2.1
  have hown := C.1.2.2.2.2.1
  have hT := C.1.2.2.2.2.2.1
  unfold M_shorts_287 at hM
  refine lv_aload_n (pc := 287) hx hb dM_shorts_287 rfl (lv_at hl 0 rfl) ?_
  refine lv_iload_n (pc := 288) hx hb dM_shorts_288 rfl (lv_at hl 1 rfl) ?_
  refine lv_iload (pc := 289) hx hb dM_shorts_289 (lv_at hl 2 rfl) ?_
  refine lv_iload (pc := 291) hx hb dM_shorts_291 (lv_at hl 3 rfl) ?_
  obtain ⟨r1, σ2, hr1, hM⟩ := cl_some hM
  refine x_callMv (pc := 293) C hW (kM_plainSix l D dA h N x2 x4 x5 _ hr1) gM_plainSix_633 ⟨rfl, by decide, by decide, by decide +kernel⟩ ⟨rfl, rfl⟩ ⟨by decide, by decide⟩ ⟨by decide, by decide⟩ (As := [.int x2, .int x4, .int x5]) (n := 3) rfl hl.1 rfl (Nat.le_of_ble_eq_true rfl) dM_shorts_293 (fun H locs hW => ?_)
  refine lv_goto (pc := 296) (tgt := 341) hx hb dM_shorts_296 (by decide) ?_
  exact bM_shorts_341 N  C   _ hM _ _ hW _ (lv_sub hl [] rfl)
def M_shorts_221 (N : Nat) (x1 : Int32) (x2 : Int32) (x3 : Int32) (x4 : Int32) (x5 : Int32) (σ : MS) : Option (Int32 × MS) :=
  cl (M_comma N σ) (fun r1 σ2 => (if r1 = 0 then some ((0 : Int32), σ2) else (if x3 = 0 then (if x1 = (28 : Int32) then cl (M_taken N σ2) (fun r9 σ10 => cl (M_not  r9 (0 : Int32) σ10) (fun r11 σ12 => cl (M_half  ((x2 ||| (x4 <<< ((7 : Int32) &&& 31))) ||| (r11 <<< ((2 : Int32) &&& 31))) σ12) (fun r13 σ14 => M_shorts_341 N  σ14))) else (if x1 = (17 : Int32) then M_shorts_287 N  x2 x4 x5 σ2 else (if x5 = 0 then (if x1 = (25 : Int32) then cl (M_within N (0 : Int32) (31 : Int32) (1 : Int32) σ2) (fun r5 σ6 => cl (M_half  ((x2 ||| (x4 <<< ((7 : Int32) &&& 31))) ||| ((r5 &&& (31 : Int32)) <<< ((2 : Int32) &&& 31))) σ6) (fun r7 σ8 => M_shorts_341 N  σ8)) else cl (M_stacked N x1 x2 x4 σ2) (fun r3 σ4 => M_shorts_341 N  σ4)) else M_shorts_287 N  x2 x4 x5 σ2))) else cl (M_smalls N x1 x2 x4 σ2) (fun r15 σ16 => M_shorts_341 N  σ16))))
set_option maxHeartbeats 4000000 in
set_option maxRecDepth 100000 in
theorem bM_shorts_221 (N : Nat)  {r : Int32} {σ' : MS} (C : CxM p s m args meth c cM_shorts 6 none D dA A) (x1 : Int32) (x2 : Int32) (x3 : Int32) (x4 : Int32) (x5 : Int32) (σ : MS) (hM : M_shorts_221 N  x1 x2 x3 x4 x5 σ = some (r, σ')) (H : Heap) (locs : List Loc) (hW : WdM D dA h A s σ H locs) (ls : Array Slot) (hl : lv_has ls 6 [(0, .ref (h 0)), (1, .int x1), (2, .int x2), (3, .int x3), (4, .int x4), (5, .int x5)]) : W p l e rm_shorts s m args below meth c H locs 0 0 (MQ below (QM D dA h A σ' none) args s 0 0 A) (F0 m 221 ls []) := by
  have hx := C.1.1
  have hb := C.1.2.1
  have hown := C.1.2.2.2.2.1
  have hT := C.1.2.2.2.2.2.1
  unfold M_shorts_221 at hM
  refine lv_aload_n (pc := 221) hx hb dM_shorts_221 rfl (lv_at hl 0 rfl) ?_
  obtain ⟨r1, σ2, hr1, hM⟩ := cl_some hM
  refine x_callMi (pc := 222) C hW (kM_comma l D dA h N _ hr1) gM_comma_591 ⟨rfl, by decide, by decide, by decide +kernel⟩ ⟨rfl, rfl⟩ ⟨by decide, by decide⟩ ⟨by decide, by decide⟩ (As := []) (n := 0) rfl hl.1 rfl (Nat.le_of_ble_eq_true rfl) dM_shorts_222 (fun H locs hW => ?_)
  refine lv_if_ne (pc := 225) (tgt := 229) hx hb dM_shorts_225 (by decide) (fun hc => ?_) (fun hc => ?_)
  · replace hM := it_f hc hM
    refine lv_iload_n (pc := 229) hx hb dM_shorts_229 rfl (lv_at hl 3 rfl) ?_
    refine lv_if_eq (pc := 230) (tgt := 244) hx hb dM_shorts_230 (by decide) (fun hc => ?_) (fun hc => ?_)
    · replace hM := it_t hc hM
      refine lv_iload_n (pc := 244) hx hb dM_shorts_244 rfl (lv_at hl 1 rfl) ?_
      refine lv_bipush (pc := 245) (v := 28) hx hb dM_shorts_245 (by decide) ?_
      refine lv_icmp_ne (pc := 247) (tgt := 276) hx hb dM_shorts_247 (by decide) (fun hc => ?_) (fun hc => ?_)
      · replace hM := it_f hc hM
        refine lv_iload_n (pc := 276) hx hb dM_shorts_276 rfl (lv_at hl 1 rfl) ?_
        refine lv_bipush (pc := 277) (v := 17) hx hb dM_shorts_277 (by decide) ?_
        refine lv_icmp_eq (pc := 279) (tgt := 287) hx hb dM_shorts_279 (by decide) (fun hc => ?_) (fun hc => ?_)
        · replace hM := it_t hc hM
          exact bM_shorts_287 N  C  _ _ _ _ hM _ _ hW _ (lv_sub hl [0, 2, 4, 5] rfl)
        · replace hM := it_f hc hM
          refine lv_iload (pc := 282) hx hb dM_shorts_282 (lv_at hl 5 rfl) ?_
          refine lv_if_eq (pc := 284) (tgt := 299) hx hb dM_shorts_284 (by decide) (fun hc => ?_) (fun hc => ?_)
          · replace hM := it_t hc hM
            refine lv_iload_n (pc := 299) hx hb dM_shorts_299 rfl (lv_at hl 1 rfl) ?_
            refine lv_bipush (pc := 300) (v := 25) hx hb dM_shorts_300 (by decide) ?_
            refine lv_icmp_ne (pc := 302) (tgt := 333) hx hb dM_shorts_302 (by decide) (fun hc => ?_) (fun hc => ?_)
            · replace hM := it_f hc hM
              refine lv_aload_n (pc := 333) hx hb dM_shorts_333 rfl (lv_at hl 0 rfl) ?_
              refine lv_iload_n (pc := 334) hx hb dM_shorts_334 rfl (lv_at hl 1 rfl) ?_
              refine lv_iload_n (pc := 335) hx hb dM_shorts_335 rfl (lv_at hl 2 rfl) ?_
              refine lv_iload (pc := 336) hx hb dM_shorts_336 (lv_at hl 4 rfl) ?_
              obtain ⟨r3, σ4, hr3, hM⟩ := cl_some hM
              refine x_callMv (pc := 338) C hW (kM_stacked l D dA h N x1 x2 x4 _ hr3) gM_stacked_637 ⟨rfl, by decide, by decide, by decide +kernel⟩ ⟨rfl, rfl⟩ ⟨by decide, by decide⟩ ⟨by decide, by decide⟩ (As := [.int x1, .int x2, .int x4]) (n := 3) rfl hl.1 rfl (Nat.le_of_ble_eq_true rfl) dM_shorts_338 (fun H locs hW => ?_)
              exact bM_shorts_341 N  C   _ hM _ _ hW _ (lv_sub hl [] rfl)
            · replace hM := it_t hc hM
              refine lv_aload_n (pc := 305) hx hb dM_shorts_305 rfl (lv_at hl 0 rfl) ?_
              refine lv_iload_n (pc := 306) hx hb dM_shorts_306 rfl (lv_at hl 2 rfl) ?_
              refine lv_iload (pc := 307) hx hb dM_shorts_307 (lv_at hl 4 rfl) ?_
              refine lv_bipush (pc := 309) (v := 7) hx hb dM_shorts_309 (by decide) ?_
              refine lv_ishl (pc := 311) hx hb dM_shorts_311 ?_
              refine lv_ior (pc := 312) hx hb dM_shorts_312 ?_
              refine lv_aload_n (pc := 313) hx hb dM_shorts_313 rfl (lv_at hl 0 rfl) ?_
              refine lv_iconst (pc := 314) (v := 0) hx hb dM_shorts_314 (by decide) ?_
              refine lv_bipush (pc := 315) (v := 31) hx hb dM_shorts_315 (by decide) ?_
              refine lv_iconst (pc := 317) (v := 1) hx hb dM_shorts_317 (by decide) ?_
              obtain ⟨r5, σ6, hr5, hM⟩ := cl_some hM
              refine x_callMi (pc := 318) C hW (kM_within l D dA h N (0 : Int32) (31 : Int32) (1 : Int32) _ hr5) gM_within_594 ⟨rfl, by decide, by decide, by decide +kernel⟩ ⟨rfl, rfl⟩ ⟨by decide, by decide⟩ ⟨by decide, by decide⟩ (As := [.int (0 : Int32), .int (31 : Int32), .int (1 : Int32)]) (n := 3) rfl hl.1 rfl (Nat.le_of_ble_eq_true rfl) dM_shorts_318 (fun H locs hW => ?_)
              refine lv_bipush (pc := 321) (v := 31) hx hb dM_shorts_321 (by decide) ?_
              refine lv_iand (pc := 323) hx hb dM_shorts_323 ?_
              refine lv_iconst (pc := 324) (v := 2) hx hb dM_shorts_324 (by decide) ?_
              refine lv_ishl (pc := 325) hx hb dM_shorts_325 ?_
              refine lv_ior (pc := 326) hx hb dM_shorts_326 ?_
              obtain ⟨r7, σ8, hr7, hM⟩ := cl_some hM
              refine x_callMv (pc := 327) C hW (kM_half l D dA h  ((x2 ||| (x4 <<< ((7 : Int32) &&& 31))) ||| ((r5 &&& (31 : Int32)) <<< ((2 : Int32) &&& 31))) _ hr7) gM_half_556 ⟨rfl, by decide, by decide, by decide +kernel⟩ ⟨rfl, rfl⟩ ⟨by decide, by decide⟩ ⟨by decide, by decide⟩ (As := [.int ((x2 ||| (x4 <<< ((7 : Int32) &&& 31))) ||| ((r5 &&& (31 : Int32)) <<< ((2 : Int32) &&& 31)))]) (n := 1) rfl hl.1 rfl (Nat.le_of_ble_eq_true rfl) dM_shorts_327 (fun H locs hW => ?_)
              refine lv_goto (pc := 330) (tgt := 341) hx hb dM_shorts_330 (by decide) ?_
              exact bM_shorts_341 N  C   _ hM _ _ hW _ (lv_sub hl [] rfl)
          · replace hM := it_f hc hM
            exact bM_shorts_287 N  C  _ _ _ _ hM _ _ hW _ (lv_sub hl [0, 2, 4, 5] rfl)
      · replace hM := it_t hc hM
        refine lv_aload_n (pc := 250) hx hb dM_shorts_250 rfl (lv_at hl 0 rfl) ?_
        refine lv_iload_n (pc := 251) hx hb dM_shorts_251 rfl (lv_at hl 2 rfl) ?_
        refine lv_iload (pc := 252) hx hb dM_shorts_252 (lv_at hl 4 rfl) ?_
        refine lv_bipush (pc := 254) (v := 7) hx hb dM_shorts_254 (by decide) ?_
        refine lv_ishl (pc := 256) hx hb dM_shorts_256 ?_
        refine lv_ior (pc := 257) hx hb dM_shorts_257 ?_
        refine lv_aload_n (pc := 258) hx hb dM_shorts_258 rfl (lv_at hl 0 rfl) ?_
        refine lv_aload_n (pc := 259) hx hb dM_shorts_259 rfl (lv_at hl 0 rfl) ?_
        obtain ⟨r9, σ10, hr9, hM⟩ := cl_some hM
        refine x_callMi (pc := 260) C hW (kM_taken l D dA h N _ hr9) gM_taken_541 ⟨rfl, by decide, by decide, by decide +kernel⟩ ⟨rfl, rfl⟩ ⟨by decide, by decide⟩ ⟨by decide, by decide⟩ (As := []) (n := 0) rfl hl.1 rfl (Nat.le_of_ble_eq_true rfl) dM_shorts_260 (fun H locs hW => ?_)
        refine lv_iconst (pc := 263) (v := 0) hx hb dM_shorts_263 (by decide) ?_
        obtain ⟨r11, σ12, hr11, hM⟩ := cl_some hM
        refine x_callMi (pc := 264) C hW (kM_not l D dA h  r9 (0 : Int32) _ hr11) gM_not_626 ⟨rfl, by decide, by decide, by decide +kernel⟩ ⟨rfl, rfl⟩ ⟨by decide, by decide⟩ ⟨by decide, by decide⟩ (As := [.int r9, .int (0 : Int32)]) (n := 2) rfl hl.1 rfl (Nat.le_of_ble_eq_true rfl) dM_shorts_264 (fun H locs hW => ?_)
        refine lv_iconst (pc := 267) (v := 2) hx hb dM_shorts_267 (by decide) ?_
        refine lv_ishl (pc := 268) hx hb dM_shorts_268 ?_
        refine lv_ior (pc := 269) hx hb dM_shorts_269 ?_
        obtain ⟨r13, σ14, hr13, hM⟩ := cl_some hM
        refine x_callMv (pc := 270) C hW (kM_half l D dA h  ((x2 ||| (x4 <<< ((7 : Int32) &&& 31))) ||| (r11 <<< ((2 : Int32) &&& 31))) _ hr13) gM_half_556 ⟨rfl, by decide, by decide, by decide +kernel⟩ ⟨rfl, rfl⟩ ⟨by decide, by decide⟩ ⟨by decide, by decide⟩ (As := [.int ((x2 ||| (x4 <<< ((7 : Int32) &&& 31))) ||| (r11 <<< ((2 : Int32) &&& 31)))]) (n := 1) rfl hl.1 rfl (Nat.le_of_ble_eq_true rfl) dM_shorts_270 (fun H locs hW => ?_)
        refine lv_goto (pc := 273) (tgt := 341) hx hb dM_shorts_273 (by decide) ?_
        exact bM_shorts_341 N  C   _ hM _ _ hW _ (lv_sub hl [] rfl)
    · replace hM := it_f hc hM
      refine lv_aload_n (pc := 233) hx hb dM_shorts_233 rfl (lv_at hl 0 rfl) ?_
      refine lv_iload_n (pc := 234) hx hb dM_shorts_234 rfl (lv_at hl 1 rfl) ?_
      refine lv_iload_n (pc := 235) hx hb dM_shorts_235 rfl (lv_at hl 2 rfl) ?_
      refine lv_iload (pc := 236) hx hb dM_shorts_236 (lv_at hl 4 rfl) ?_
      obtain ⟨r15, σ16, hr15, hM⟩ := cl_some hM
      refine x_callMv (pc := 238) C hW (kM_smalls l D dA h N x1 x2 x4 _ hr15) gM_smalls_629 ⟨rfl, by decide, by decide, by decide +kernel⟩ ⟨rfl, rfl⟩ ⟨by decide, by decide⟩ ⟨by decide, by decide⟩ (As := [.int x1, .int x2, .int x4]) (n := 3) rfl hl.1 rfl (Nat.le_of_ble_eq_true rfl) dM_shorts_238 (fun H locs hW => ?_)
      refine lv_goto (pc := 241) (tgt := 341) hx hb dM_shorts_241 (by decide) ?_
      exact bM_shorts_341 N  C   _ hM _ _ hW _ (lv_sub hl [] rfl)
  · replace hM := it_t hc hM
    obtain ⟨rfl, rfl⟩ := sm_p hM
    exact x_retMv (pc := 228) C rfl hW dM_shorts_228
def M_shorts_206 (N : Nat) (x1 : Int32) (x2 : Int32) (x3 : Int32) (x4 : Int32) (t0 : Int32) (σ : MS) : Option (Int32 × MS) :=
  (if t0 = 0 then M_shorts_221 N  x1 x2 x3 x4 t0 σ else cl (M_not  x4 (2 : Int32) σ) (fun r1 σ2 => M_shorts_221 N  x1 x2 x3 x4 t0 σ2))
set_option maxHeartbeats 4000000 in
set_option maxRecDepth 100000 in
theorem bM_shorts_206 (N : Nat)  {r : Int32} {σ' : MS} (C : CxM p s m args meth c cM_shorts 6 none D dA A) (x1 : Int32) (x2 : Int32) (x3 : Int32) (x4 : Int32) (t0 : Int32) (σ : MS) (hM : M_shorts_206 N  x1 x2 x3 x4 t0 σ = some (r, σ')) (H : Heap) (locs : List Loc) (hW : WdM D dA h A s σ H locs) (ls : Array Slot) (hl : lv_has ls 6 [(0, .ref (h 0)), (1, .int x1), (2, .int x2), (3, .int x3), (4, .int x4)]) : W p l e rm_shorts s m args below meth c H locs 0 0 (MQ below (QM D dA h A σ' none) args s 0 0 A) (F0 m 206 ls [.int t0]) := by
  have hx := C.1.1
  have hb := C.1.2.1
  have hown := C.1.2.2.2.2.1
  have hT := C.1.2.2.2.2.2.1
  unfold M_shorts_206 at hM
  refine lv_istore (pc := 206) (lv' := [(5, .int t0), (0, .ref (h 0)), (1, .int x1), (2, .int x2), (3, .int x3), (4, .int x4)]) hx hb dM_shorts_206 hl (by decide) rfl (fun ls hl => ?_)
  refine lv_iload (pc := 208) hx hb dM_shorts_208 (lv_at hl 0 rfl) ?_
  refine lv_if_eq (pc := 210) (tgt := 221) hx hb dM_shorts_210 (by decide) (fun hc => ?_) (fun hc => ?_)
  · replace hM := it_t hc hM
    exact bM_shorts_221 N  C  _ _ _ _ _ _ hM _ _ hW _ (lv_sub hl [1, 2, 3, 4, 5, 0] rfl)
  · replace hM := it_f hc hM
    refine lv_aload_n (pc := 213) hx hb dM_shorts_213 rfl (lv_at hl 1 rfl) ?_
    refine lv_iload (pc := 214) hx hb dM_shorts_214 (lv_at hl 5 rfl) ?_
    refine lv_iconst (pc := 216) (v := 2) hx hb dM_shorts_216 (by decide) ?_
    obtain ⟨r1, σ2, hr1, hM⟩ := cl_some hM
    refine x_callMi (pc := 217) C hW (kM_not l D dA h  x4 (2 : Int32) _ hr1) gM_not_626 ⟨rfl, by decide, by decide, by decide +kernel⟩ ⟨rfl, rfl⟩ ⟨by decide, by decide⟩ ⟨by decide, by decide⟩ (As := [.int x4, .int (2 : Int32)]) (n := 2) rfl hl.1 rfl (Nat.le_of_ble_eq_true rfl) dM_shorts_217 (fun H locs hW => ?_)
    refine lv_pop (pc := 220) hx hb dM_shorts_220 rfl ?_
    exact bM_shorts_221 N  C  _ _ _ _ _ _ hM _ _ hW _ (lv_sub hl [1, 2, 3, 4, 5, 0] rfl)
def M_shorts_195 (N : Nat) (x1 : Int32) (x2 : Int32) (x3 : Int32) (x4 : Int32) (σ : MS) : Option (Int32 × MS) :=
  (if x1 = (18 : Int32) then M_shorts_206 N  x1 x2 x3 x4 (1 : Int32) σ else M_shorts_206 N  x1 x2 x3 x4 (0 : Int32) σ)
set_option maxHeartbeats 4000000 in
set_option maxRecDepth 100000 in
theorem bM_shorts_195 (N : Nat)  {r : Int32} {σ' : MS} (C : CxM p s m args meth c cM_shorts 6 none D dA A) (x1 : Int32) (x2 : Int32) (x3 : Int32) (x4 : Int32) (σ : MS) (hM : M_shorts_195 N  x1 x2 x3 x4 σ = some (r, σ')) (H : Heap) (locs : List Loc) (hW : WdM D dA h A s σ H locs) (ls : Array Slot) (hl : lv_has ls 6 [(0, .ref (h 0)), (1, .int x1), (2, .int x2), (3, .int x3), (4, .int x4)]) : W p l e rm_shorts s m args below meth c H locs 0 0 (MQ below (QM D dA h A σ' none) args s 0 0 A) (F0 m 195 ls []) := by
  have hx := C.1.1
  have hb := C.1.2.1
  have hown := C.1.2.2.2.2.1
  have hT := C.1.2.2.2.2.2.1
  unfold M_shorts_195 at hM
  refine lv_iload_n (pc := 195) hx hb dM_shorts_195 rfl (lv_at hl 1 rfl) ?_
  refine lv_bipush (pc := 196) (v := 18) hx hb dM_shorts_196 (by decide) ?_
  refine lv_icmp_ne (pc := 198) (tgt := 205) hx hb dM_shorts_198 (by decide) (fun hc => ?_) (fun hc => ?_)
  · replace hM := it_f hc hM
    refine lv_iconst (pc := 205) (v := 0) hx hb dM_shorts_205 (by decide) ?_
    exact bM_shorts_206 N  C  _ _ _ _ _ _ hM _ _ hW _ (lv_sub hl [0, 1, 2, 3, 4] rfl)
  · replace hM := it_t hc hM
    refine lv_iconst (pc := 201) (v := 1) hx hb dM_shorts_201 (by decide) ?_
    refine lv_goto (pc := 202) (tgt := 206) hx hb dM_shorts_202 (by decide) ?_
    exact bM_shorts_206 N  C  _ _ _ _ _ _ hM _ _ hW _ (lv_sub hl [0, 1, 2, 3, 4] rfl)
def M_shorts_156 (N : Nat) (x1 : Int32) (x2 : Int32) (x3 : Int32) (t0 : Int32) (σ : MS) : Option (Int32 × MS) :=
  (if x1 = (27 : Int32) then cl (M_not  t0 (0 : Int32) σ) (fun r3 σ4 => cl (M_half  (x2 ||| (r3 <<< ((7 : Int32) &&& 31))) σ4) (fun r5 σ6 => some ((0 : Int32), σ6))) else (if x1 = (26 : Int32) then cl (M_not  t0 (0 : Int32) σ) (fun r1 σ2 => M_shorts_195 N  x1 x2 x3 t0 σ2) else M_shorts_195 N  x1 x2 x3 t0 σ))
set_option maxHeartbeats 4000000 in
set_option maxRecDepth 100000 in
theorem bM_shorts_156 (N : Nat)  {r : Int32} {σ' : MS} (C : CxM p s m args meth c cM_shorts 6 none D dA A) (x1 : Int32) (x2 : Int32) (x3 : Int32) (t0 : Int32) (σ : MS) (hM : M_shorts_156 N  x1 x2 x3 t0 σ = some (r, σ')) (H : Heap) (locs : List Loc) (hW : WdM D dA h A s σ H locs) (ls : Array Slot) (hl : lv_has ls 6 [(0, .ref (h 0)), (1, .int x1), (2, .int x2), (3, .int x3)]) : W p l e rm_shorts s m args below meth c H locs 0 0 (MQ below (QM D dA h A σ' none) args s 0 0 A) (F0 m 156 ls [.int t0]) := by
  have hx := C.1.1
  have hb := C.1.2.1
  have hown := C.1.2.2.2.2.1
  have hT := C.1.2.2.2.2.2.1
  unfold M_shorts_156 at hM
  refine lv_istore (pc := 156) (lv' := [(4, .int t0), (0, .ref (h 0)), (1, .int x1), (2, .int x2), (3, .int x3)]) hx hb dM_shorts_156 hl (by decide) rfl (fun ls hl => ?_)
  refine lv_iload_n (pc := 158) hx hb dM_shorts_158 rfl (lv_at hl 2 rfl) ?_
  refine lv_bipush (pc := 159) (v := 27) hx hb dM_shorts_159 (by decide) ?_
  refine lv_icmp_ne (pc := 161) (tgt := 181) hx hb dM_shorts_161 (by decide) (fun hc => ?_) (fun hc => ?_)
  · replace hM := it_f hc hM
    refine lv_iload_n (pc := 181) hx hb dM_shorts_181 rfl (lv_at hl 2 rfl) ?_
    refine lv_bipush (pc := 182) (v := 26) hx hb dM_shorts_182 (by decide) ?_
    refine lv_icmp_ne (pc := 184) (tgt := 195) hx hb dM_shorts_184 (by decide) (fun hc => ?_) (fun hc => ?_)
    · replace hM := it_f hc hM
      exact bM_shorts_195 N  C  _ _ _ _ _ hM _ _ hW _ (lv_sub hl [1, 2, 3, 4, 0] rfl)
    · replace hM := it_t hc hM
      refine lv_aload_n (pc := 187) hx hb dM_shorts_187 rfl (lv_at hl 1 rfl) ?_
      refine lv_iload (pc := 188) hx hb dM_shorts_188 (lv_at hl 0 rfl) ?_
      refine lv_iconst (pc := 190) (v := 0) hx hb dM_shorts_190 (by decide) ?_
      obtain ⟨r1, σ2, hr1, hM⟩ := cl_some hM
      refine x_callMi (pc := 191) C hW (kM_not l D dA h  t0 (0 : Int32) _ hr1) gM_not_626 ⟨rfl, by decide, by decide, by decide +kernel⟩ ⟨rfl, rfl⟩ ⟨by decide, by decide⟩ ⟨by decide, by decide⟩ (As := [.int t0, .int (0 : Int32)]) (n := 2) rfl hl.1 rfl (Nat.le_of_ble_eq_true rfl) dM_shorts_191 (fun H locs hW => ?_)
      refine lv_pop (pc := 194) hx hb dM_shorts_194 rfl ?_
      exact bM_shorts_195 N  C  _ _ _ _ _ hM _ _ hW _ (lv_sub hl [1, 2, 3, 4, 0] rfl)
  · replace hM := it_t hc hM
    refine lv_aload_n (pc := 164) hx hb dM_shorts_164 rfl (lv_at hl 1 rfl) ?_
    refine lv_iload_n (pc := 165) hx hb dM_shorts_165 rfl (lv_at hl 3 rfl) ?_
    refine lv_aload_n (pc := 166) hx hb dM_shorts_166 rfl (lv_at hl 1 rfl) ?_
    refine lv_iload (pc := 167) hx hb dM_shorts_167 (lv_at hl 0 rfl) ?_
    refine lv_iconst (pc := 169) (v := 0) hx hb dM_shorts_169 (by decide) ?_
    obtain ⟨r3, σ4, hr3, hM⟩ := cl_some hM
    refine x_callMi (pc := 170) C hW (kM_not l D dA h  t0 (0 : Int32) _ hr3) gM_not_626 ⟨rfl, by decide, by decide, by decide +kernel⟩ ⟨rfl, rfl⟩ ⟨by decide, by decide⟩ ⟨by decide, by decide⟩ (As := [.int t0, .int (0 : Int32)]) (n := 2) rfl hl.1 rfl (Nat.le_of_ble_eq_true rfl) dM_shorts_170 (fun H locs hW => ?_)
    refine lv_bipush (pc := 173) (v := 7) hx hb dM_shorts_173 (by decide) ?_
    refine lv_ishl (pc := 175) hx hb dM_shorts_175 ?_
    refine lv_ior (pc := 176) hx hb dM_shorts_176 ?_
    obtain ⟨r5, σ6, hr5, hM⟩ := cl_some hM
    refine x_callMv (pc := 177) C hW (kM_half l D dA h  (x2 ||| (r3 <<< ((7 : Int32) &&& 31))) _ hr5) gM_half_556 ⟨rfl, by decide, by decide, by decide +kernel⟩ ⟨rfl, rfl⟩ ⟨by decide, by decide⟩ ⟨by decide, by decide⟩ (As := [.int (x2 ||| (r3 <<< ((7 : Int32) &&& 31)))]) (n := 1) rfl hl.1 rfl (Nat.le_of_ble_eq_true rfl) dM_shorts_177 (fun H locs hW => ?_)
    obtain ⟨rfl, rfl⟩ := sm_p hM
    exact x_retMv (pc := 180) C rfl hW dM_shorts_180
def M_shorts_140 (N : Nat) (x1 : Int32) (x2 : Int32) (t0 : Int32) (σ : MS) : Option (Int32 × MS) :=
  (if t0 = 0 then cl (M_taken N σ) (fun r1 σ2 => M_shorts_156 N  x1 x2 t0 r1 σ2) else cl (M_near8 N σ) (fun r3 σ4 => M_shorts_156 N  x1 x2 t0 r3 σ4))
set_option maxHeartbeats 4000000 in
set_option maxRecDepth 100000 in
theorem bM_shorts_140 (N : Nat)  {r : Int32} {σ' : MS} (C : CxM p s m args meth c cM_shorts 6 none D dA A) (x1 : Int32) (x2 : Int32) (t0 : Int32) (σ : MS) (hM : M_shorts_140 N  x1 x2 t0 σ = some (r, σ')) (H : Heap) (locs : List Loc) (hW : WdM D dA h A s σ H locs) (ls : Array Slot) (hl : lv_has ls 6 [(0, .ref (h 0)), (1, .int x1), (2, .int x2)]) : W p l e rm_shorts s m args below meth c H locs 0 0 (MQ below (QM D dA h A σ' none) args s 0 0 A) (F0 m 140 ls [.int t0]) := by
  have hx := C.1.1
  have hb := C.1.2.1
  have hown := C.1.2.2.2.2.1
  have hT := C.1.2.2.2.2.2.1
  unfold M_shorts_140 at hM
  refine lv_istore_n (pc := 140) (lv' := [(3, .int t0), (0, .ref (h 0)), (1, .int x1), (2, .int x2)]) hx hb dM_shorts_140 rfl hl (by decide) rfl (fun ls hl => ?_)
  refine lv_iload_n (pc := 141) hx hb dM_shorts_141 rfl (lv_at hl 0 rfl) ?_
  refine lv_if_eq (pc := 142) (tgt := 152) hx hb dM_shorts_142 (by decide) (fun hc => ?_) (fun hc => ?_)
  · replace hM := it_t hc hM
    refine lv_aload_n (pc := 152) hx hb dM_shorts_152 rfl (lv_at hl 1 rfl) ?_
    obtain ⟨r1, σ2, hr1, hM⟩ := cl_some hM
    refine x_callMi (pc := 153) C hW (kM_taken l D dA h N _ hr1) gM_taken_541 ⟨rfl, by decide, by decide, by decide +kernel⟩ ⟨rfl, rfl⟩ ⟨by decide, by decide⟩ ⟨by decide, by decide⟩ (As := []) (n := 0) rfl hl.1 rfl (Nat.le_of_ble_eq_true rfl) dM_shorts_153 (fun H locs hW => ?_)
    exact bM_shorts_156 N  C  _ _ _ _ _ hM _ _ hW _ (lv_sub hl [1, 2, 3, 0] rfl)
  · replace hM := it_f hc hM
    refine lv_aload_n (pc := 145) hx hb dM_shorts_145 rfl (lv_at hl 1 rfl) ?_
    obtain ⟨r3, σ4, hr3, hM⟩ := cl_some hM
    refine x_callMi (pc := 146) C hW (kM_near8 l D dA h N _ hr3) gM_near8_623 ⟨rfl, by decide, by decide, by decide +kernel⟩ ⟨rfl, rfl⟩ ⟨by decide, by decide⟩ ⟨by decide, by decide⟩ (As := []) (n := 0) rfl hl.1 rfl (Nat.le_of_ble_eq_true rfl) dM_shorts_146 (fun H locs hW => ?_)
    refine lv_goto (pc := 149) (tgt := 156) hx hb dM_shorts_149 (by decide) ?_
    exact bM_shorts_156 N  C  _ _ _ _ _ hM _ _ hW _ (lv_sub hl [1, 2, 3, 0] rfl)
def M_shorts_135 (N : Nat) (x1 : Int32) (x2 : Int32) (σ : MS) : Option (Int32 × MS) :=
  M_shorts_140 N  x1 x2 (1 : Int32) σ
set_option maxHeartbeats 4000000 in
set_option maxRecDepth 100000 in
theorem bM_shorts_135 (N : Nat)  {r : Int32} {σ' : MS} (C : CxM p s m args meth c cM_shorts 6 none D dA A) (x1 : Int32) (x2 : Int32) (σ : MS) (hM : M_shorts_135 N  x1 x2 σ = some (r, σ')) (H : Heap) (locs : List Loc) (hW : WdM D dA h A s σ H locs) (ls : Array Slot) (hl : lv_has ls 6 [(0, .ref (h 0)), (1, .int x1), (2, .int x2)]) : W p l e rm_shorts s m args below meth c H locs 0 0 (MQ below (QM D dA h A σ' none) args s 0 0 A) (F0 m 135 ls []) := by
  have hx := C.1.1
  have hb := C.1.2.1
  have hown := C.1.2.2.2.2.1
  have hT := C.1.2.2.2.2.2.1
  unfold M_shorts_135 at hM
  refine lv_iconst (pc := 135) (v := 1) hx hb dM_shorts_135 (by decide) ?_
  refine lv_goto (pc := 136) (tgt := 140) hx hb dM_shorts_136 (by decide) ?_
  exact bM_shorts_140 N  C  _ _ _ _ hM _ _ hW _ (lv_sub hl [0, 1, 2] rfl)
def M_shorts_139 (N : Nat) (x1 : Int32) (x2 : Int32) (σ : MS) : Option (Int32 × MS) :=
  M_shorts_140 N  x1 x2 (0 : Int32) σ
set_option maxHeartbeats 4000000 in
set_option maxRecDepth 100000 in
theorem bM_shorts_139 (N : Nat)  {r : Int32} {σ' : MS} (C : CxM p s m args meth c cM_shorts 6 none D dA A) (x1 : Int32) (x2 : Int32) (σ : MS) (hM : M_shorts_139 N  x1 x2 σ = some (r, σ')) (H : Heap) (locs : List Loc) (hW : WdM D dA h A s σ H locs) (ls : Array Slot) (hl : lv_has ls 6 [(0, .ref (h 0)), (1, .int x1), (2, .int x2)]) : W p l e rm_shorts s m args below meth c H locs 0 0 (MQ below (QM D dA h A σ' none) args s 0 0 A) (F0 m 139 ls []) := by
  have hx := C.1.1
  have hb := C.1.2.1
  have hown := C.1.2.2.2.2.1
  have hT := C.1.2.2.2.2.2.1
  unfold M_shorts_139 at hM
  refine lv_iconst (pc := 139) (v := 0) hx hb dM_shorts_139 (by decide) ?_
  exact bM_shorts_140 N  C  _ _ _ _ hM _ _ hW _ (lv_sub hl [0, 1, 2] rfl)
def M_shorts (N : Nat) (x1 : Int32) (x2 : Int32) (σ : MS) : Option (Int32 × MS) :=
  (if x1 = (19 : Int32) then cl (M_expression N σ) (fun r12 σ13 => cl (M_fits  (r12 - (σ13.1 19)) (-2048 : Int32) (2046 : Int32) (2 : Int32) σ13) (fun r14 σ15 => cr (M_shortJump  (r12 - (σ13.1 19))) (fun r16 => cl (M_half  (x2 ||| r16) σ15) (fun r17 σ18 => some ((0 : Int32), σ18))))) else (if x1 = (20 : Int32) then cl (M_within N (-512 : Int32) (496 : Int32) (16 : Int32) σ) (fun r1 σ2 => cl (M_notZero  r1 σ2) (fun r3 σ4 => cr (M_bits  r1 (9 : Int32) (9 : Int32) (12 : Int32)) (fun r5 => cr (M_bits  r1 (4 : Int32) (4 : Int32) (6 : Int32)) (fun r6 => cr (M_bits  r1 (6 : Int32) (6 : Int32) (5 : Int32)) (fun r7 => cr (M_bits  r1 (8 : Int32) (7 : Int32) (3 : Int32)) (fun r8 => cr (M_bits  r1 (5 : Int32) (5 : Int32) (2 : Int32)) (fun r9 => cl (M_half  (((((x2 ||| r5) ||| r6) ||| r7) ||| r8) ||| r9) σ4) (fun r10 σ11 => some ((0 : Int32), σ11))))))))) else (if x1 < (16 : Int32) then M_shorts_135 N  x1 x2 σ else (if x1 ≤ (20 : Int32) then M_shorts_139 N  x1 x2 σ else (if (25 : Int32) ≤ x1 then M_shorts_139 N  x1 x2 σ else M_shorts_135 N  x1 x2 σ)))))
set_option maxHeartbeats 4000000 in
set_option maxRecDepth 100000 in
theorem bM_shorts_0 (N : Nat)  {r : Int32} {σ' : MS} (C : CxM p s m args meth c cM_shorts 6 none D dA A) (x1 : Int32) (x2 : Int32) (σ : MS) (hM : M_shorts N  x1 x2 σ = some (r, σ')) (H : Heap) (locs : List Loc) (hW : WdM D dA h A s σ H locs) (ls : Array Slot) (hl : lv_has ls 6 [(0, .ref (h 0)), (1, .int x1), (2, .int x2)]) : W p l e rm_shorts s m args below meth c H locs 0 0 (MQ below (QM D dA h A σ' none) args s 0 0 A) (F0 m 0 ls []) := by
  have hx := C.1.1
  have hb := C.1.2.1
  have hown := C.1.2.2.2.2.1
  have hT := C.1.2.2.2.2.2.1
  unfold M_shorts at hM
  refine lv_iload_n (pc := 0) hx hb dM_shorts_0 rfl (lv_at hl 1 rfl) ?_
  refine lv_bipush (pc := 1) (v := 19) hx hb dM_shorts_1 (by decide) ?_
  refine lv_icmp_ne (pc := 3) (tgt := 39) hx hb dM_shorts_3 (by decide) (fun hc => ?_) (fun hc => ?_)
  · replace hM := it_f hc hM
    refine lv_iload_n (pc := 39) hx hb dM_shorts_39 rfl (lv_at hl 1 rfl) ?_
    refine lv_bipush (pc := 40) (v := 20) hx hb dM_shorts_40 (by decide) ?_
    refine lv_icmp_ne (pc := 42) (tgt := 117) hx hb dM_shorts_42 (by decide) (fun hc => ?_) (fun hc => ?_)
    · replace hM := it_f hc hM
      refine lv_iload_n (pc := 117) hx hb dM_shorts_117 rfl (lv_at hl 1 rfl) ?_
      refine lv_bipush (pc := 118) (v := 16) hx hb dM_shorts_118 (by decide) ?_
      refine lv_icmp_lt (pc := 120) (tgt := 135) hx hb dM_shorts_120 (by decide) (fun hc => ?_) (fun hc => ?_)
      · replace hM := it_t hc hM
        exact bM_shorts_135 N  C  _ _ _ hM _ _ hW _ (lv_sub hl [0, 1, 2] rfl)
      · replace hM := it_f hc hM
        refine lv_iload_n (pc := 123) hx hb dM_shorts_123 rfl (lv_at hl 1 rfl) ?_
        refine lv_bipush (pc := 124) (v := 20) hx hb dM_shorts_124 (by decide) ?_
        refine lv_icmp_le (pc := 126) (tgt := 139) hx hb dM_shorts_126 (by decide) (fun hc => ?_) (fun hc => ?_)
        · replace hM := it_t hc hM
          exact bM_shorts_139 N  C  _ _ _ hM _ _ hW _ (lv_sub hl [0, 1, 2] rfl)
        · replace hM := it_f hc hM
          refine lv_iload_n (pc := 129) hx hb dM_shorts_129 rfl (lv_at hl 1 rfl) ?_
          refine lv_bipush (pc := 130) (v := 25) hx hb dM_shorts_130 (by decide) ?_
          refine lv_icmp_ge (pc := 132) (tgt := 139) hx hb dM_shorts_132 (by decide) (fun hc => ?_) (fun hc => ?_)
          · replace hM := it_t hc hM
            exact bM_shorts_139 N  C  _ _ _ hM _ _ hW _ (lv_sub hl [0, 1, 2] rfl)
          · replace hM := it_f hc hM
            exact bM_shorts_135 N  C  _ _ _ hM _ _ hW _ (lv_sub hl [0, 1, 2] rfl)
    · replace hM := it_t hc hM
      refine lv_aload_n (pc := 45) hx hb dM_shorts_45 rfl (lv_at hl 0 rfl) ?_
      refine lv_sipush (pc := 46) (v := -512) hx hb dM_shorts_46 (by decide) ?_
      refine lv_sipush (pc := 49) (v := 496) hx hb dM_shorts_49 (by decide) ?_
      refine lv_bipush (pc := 52) (v := 16) hx hb dM_shorts_52 (by decide) ?_
      obtain ⟨r1, σ2, hr1, hM⟩ := cl_some hM
      refine x_callMi (pc := 54) C hW (kM_within l D dA h N (-512 : Int32) (496 : Int32) (16 : Int32) _ hr1) gM_within_594 ⟨rfl, by decide, by decide, by decide +kernel⟩ ⟨rfl, rfl⟩ ⟨by decide, by decide⟩ ⟨by decide, by decide⟩ (As := [.int (-512 : Int32), .int (496 : Int32), .int (16 : Int32)]) (n := 3) rfl hl.1 rfl (Nat.le_of_ble_eq_true rfl) dM_shorts_54 (fun H locs hW => ?_)
      refine lv_istore_n (pc := 57) (lv' := [(3, .int r1), (0, .ref (h 0)), (1, .int x1), (2, .int x2)]) hx hb dM_shorts_57 rfl hl (by decide) rfl (fun ls hl => ?_)
      refine lv_aload_n (pc := 58) hx hb dM_shorts_58 rfl (lv_at hl 1 rfl) ?_
      refine lv_iload_n (pc := 59) hx hb dM_shorts_59 rfl (lv_at hl 0 rfl) ?_
      obtain ⟨r3, σ4, hr3, hM⟩ := cl_some hM
      refine x_callMv (pc := 60) C hW (kM_notZero l D dA h  r1 _ hr3) gM_notZero_620 ⟨rfl, by decide, by decide, by decide +kernel⟩ ⟨rfl, rfl⟩ ⟨by decide, by decide⟩ ⟨by decide, by decide⟩ (As := [.int r1]) (n := 1) rfl hl.1 rfl (Nat.le_of_ble_eq_true rfl) dM_shorts_60 (fun H locs hW => ?_)
      refine lv_aload_n (pc := 63) hx hb dM_shorts_63 rfl (lv_at hl 1 rfl) ?_
      refine lv_iload_n (pc := 64) hx hb dM_shorts_64 rfl (lv_at hl 3 rfl) ?_
      refine lv_iload_n (pc := 65) hx hb dM_shorts_65 rfl (lv_at hl 0 rfl) ?_
      refine lv_bipush (pc := 66) (v := 9) hx hb dM_shorts_66 (by decide) ?_
      refine lv_bipush (pc := 68) (v := 9) hx hb dM_shorts_68 (by decide) ?_
      refine lv_bipush (pc := 70) (v := 12) hx hb dM_shorts_70 (by decide) ?_
      obtain ⟨r5, hr5, hM⟩ := cr_some hM
      refine x_callSi (pc := 72) C.1 (kM_bits l  r1 (9 : Int32) (9 : Int32) (12 : Int32) hr5) gM_bits_559 ⟨rfl, by decide, by decide, by decide +kernel⟩ ⟨rfl, rfl⟩ ⟨by decide, by decide⟩ ⟨by decide, by decide⟩ (As := [.int r1, .int (9 : Int32), .int (9 : Int32), .int (12 : Int32)]) (n := 4) rfl hl.1 rfl (Nat.le_of_ble_eq_true rfl) dM_shorts_72 ?_
      refine lv_ior (pc := 75) hx hb dM_shorts_75 ?_
      refine lv_iload_n (pc := 76) hx hb dM_shorts_76 rfl (lv_at hl 0 rfl) ?_
      refine lv_iconst (pc := 77) (v := 4) hx hb dM_shorts_77 (by decide) ?_
      refine lv_iconst (pc := 78) (v := 4) hx hb dM_shorts_78 (by decide) ?_
      refine lv_bipush (pc := 79) (v := 6) hx hb dM_shorts_79 (by decide) ?_
      obtain ⟨r6, hr6, hM⟩ := cr_some hM
      refine x_callSi (pc := 81) C.1 (kM_bits l  r1 (4 : Int32) (4 : Int32) (6 : Int32) hr6) gM_bits_559 ⟨rfl, by decide, by decide, by decide +kernel⟩ ⟨rfl, rfl⟩ ⟨by decide, by decide⟩ ⟨by decide, by decide⟩ (As := [.int r1, .int (4 : Int32), .int (4 : Int32), .int (6 : Int32)]) (n := 4) rfl hl.1 rfl (Nat.le_of_ble_eq_true rfl) dM_shorts_81 ?_
      refine lv_ior (pc := 84) hx hb dM_shorts_84 ?_
      refine lv_iload_n (pc := 85) hx hb dM_shorts_85 rfl (lv_at hl 0 rfl) ?_
      refine lv_bipush (pc := 86) (v := 6) hx hb dM_shorts_86 (by decide) ?_
      refine lv_bipush (pc := 88) (v := 6) hx hb dM_shorts_88 (by decide) ?_
      refine lv_iconst (pc := 90) (v := 5) hx hb dM_shorts_90 (by decide) ?_
      obtain ⟨r7, hr7, hM⟩ := cr_some hM
      refine x_callSi (pc := 91) C.1 (kM_bits l  r1 (6 : Int32) (6 : Int32) (5 : Int32) hr7) gM_bits_559 ⟨rfl, by decide, by decide, by decide +kernel⟩ ⟨rfl, rfl⟩ ⟨by decide, by decide⟩ ⟨by decide, by decide⟩ (As := [.int r1, .int (6 : Int32), .int (6 : Int32), .int (5 : Int32)]) (n := 4) rfl hl.1 rfl (Nat.le_of_ble_eq_true rfl) dM_shorts_91 ?_
      refine lv_ior (pc := 94) hx hb dM_shorts_94 ?_
      refine lv_iload_n (pc := 95) hx hb dM_shorts_95 rfl (lv_at hl 0 rfl) ?_
      refine lv_bipush (pc := 96) (v := 8) hx hb dM_shorts_96 (by decide) ?_
      refine lv_bipush (pc := 98) (v := 7) hx hb dM_shorts_98 (by decide) ?_
      refine lv_iconst (pc := 100) (v := 3) hx hb dM_shorts_100 (by decide) ?_
      obtain ⟨r8, hr8, hM⟩ := cr_some hM
      refine x_callSi (pc := 101) C.1 (kM_bits l  r1 (8 : Int32) (7 : Int32) (3 : Int32) hr8) gM_bits_559 ⟨rfl, by decide, by decide, by decide +kernel⟩ ⟨rfl, rfl⟩ ⟨by decide, by decide⟩ ⟨by decide, by decide⟩ (As := [.int r1, .int (8 : Int32), .int (7 : Int32), .int (3 : Int32)]) (n := 4) rfl hl.1 rfl (Nat.le_of_ble_eq_true rfl) dM_shorts_101 ?_
      refine lv_ior (pc := 104) hx hb dM_shorts_104 ?_
      refine lv_iload_n (pc := 105) hx hb dM_shorts_105 rfl (lv_at hl 0 rfl) ?_
      refine lv_iconst (pc := 106) (v := 5) hx hb dM_shorts_106 (by decide) ?_
      refine lv_iconst (pc := 107) (v := 5) hx hb dM_shorts_107 (by decide) ?_
      refine lv_iconst (pc := 108) (v := 2) hx hb dM_shorts_108 (by decide) ?_
      obtain ⟨r9, hr9, hM⟩ := cr_some hM
      refine x_callSi (pc := 109) C.1 (kM_bits l  r1 (5 : Int32) (5 : Int32) (2 : Int32) hr9) gM_bits_559 ⟨rfl, by decide, by decide, by decide +kernel⟩ ⟨rfl, rfl⟩ ⟨by decide, by decide⟩ ⟨by decide, by decide⟩ (As := [.int r1, .int (5 : Int32), .int (5 : Int32), .int (2 : Int32)]) (n := 4) rfl hl.1 rfl (Nat.le_of_ble_eq_true rfl) dM_shorts_109 ?_
      refine lv_ior (pc := 112) hx hb dM_shorts_112 ?_
      obtain ⟨r10, σ11, hr10, hM⟩ := cl_some hM
      refine x_callMv (pc := 113) C hW (kM_half l D dA h  (((((x2 ||| r5) ||| r6) ||| r7) ||| r8) ||| r9) _ hr10) gM_half_556 ⟨rfl, by decide, by decide, by decide +kernel⟩ ⟨rfl, rfl⟩ ⟨by decide, by decide⟩ ⟨by decide, by decide⟩ (As := [.int (((((x2 ||| r5) ||| r6) ||| r7) ||| r8) ||| r9)]) (n := 1) rfl hl.1 rfl (Nat.le_of_ble_eq_true rfl) dM_shorts_113 (fun H locs hW => ?_)
      obtain ⟨rfl, rfl⟩ := sm_p hM
      exact x_retMv (pc := 116) C rfl hW dM_shorts_116
  · replace hM := it_t hc hM
    refine lv_aload_n (pc := 6) hx hb dM_shorts_6 rfl (lv_at hl 0 rfl) ?_
    obtain ⟨r12, σ13, hr12, hM⟩ := cl_some hM
    refine x_callMi (pc := 7) C hW (kM_expression l D dA h N _ hr12) gM_expression_534 ⟨rfl, by decide, by decide, by decide +kernel⟩ ⟨rfl, rfl⟩ ⟨by decide, by decide⟩ ⟨by decide, by decide⟩ (As := []) (n := 0) rfl hl.1 rfl (Nat.le_of_ble_eq_true rfl) dM_shorts_7 (fun H locs hW => ?_)
    refine lv_aload_n (pc := 10) hx hb dM_shorts_10 rfl (lv_at hl 0 rfl) ?_
    refine gM (pc := 11) C hW 29 (by decide) q_1686 rfl rfl dM_shorts_11 ?_
    refine lv_isub (pc := 14) hx hb dM_shorts_14 ?_
    refine lv_istore_n (pc := 15) (lv' := [(3, .int (r12 - (σ13.1 19))), (0, .ref (h 0)), (1, .int x1), (2, .int x2)]) hx hb dM_shorts_15 rfl hl (by decide) rfl (fun ls hl => ?_)
    refine lv_aload_n (pc := 16) hx hb dM_shorts_16 rfl (lv_at hl 1 rfl) ?_
    refine lv_iload_n (pc := 17) hx hb dM_shorts_17 rfl (lv_at hl 0 rfl) ?_
    refine lv_sipush (pc := 18) (v := -2048) hx hb dM_shorts_18 (by decide) ?_
    refine lv_sipush (pc := 21) (v := 2046) hx hb dM_shorts_21 (by decide) ?_
    refine lv_iconst (pc := 24) (v := 2) hx hb dM_shorts_24 (by decide) ?_
    obtain ⟨r14, σ15, hr14, hM⟩ := cl_some hM
    refine x_callMv (pc := 25) C hW (kM_fits l D dA h  (r12 - (σ13.1 19)) (-2048 : Int32) (2046 : Int32) (2 : Int32) _ hr14) gM_fits_537 ⟨rfl, by decide, by decide, by decide +kernel⟩ ⟨rfl, rfl⟩ ⟨by decide, by decide⟩ ⟨by decide, by decide⟩ (As := [.int (r12 - (σ13.1 19)), .int (-2048 : Int32), .int (2046 : Int32), .int (2 : Int32)]) (n := 4) rfl hl.1 rfl (Nat.le_of_ble_eq_true rfl) dM_shorts_25 (fun H locs hW => ?_)
    refine lv_aload_n (pc := 28) hx hb dM_shorts_28 rfl (lv_at hl 1 rfl) ?_
    refine lv_iload_n (pc := 29) hx hb dM_shorts_29 rfl (lv_at hl 3 rfl) ?_
    refine lv_iload_n (pc := 30) hx hb dM_shorts_30 rfl (lv_at hl 0 rfl) ?_
    obtain ⟨r16, hr16, hM⟩ := cr_some hM
    refine x_callSi (pc := 31) C.1 (kM_shortJump l  (r12 - (σ13.1 19)) hr16) gM_shortJump_573 ⟨rfl, by decide, by decide, by decide +kernel⟩ ⟨rfl, rfl⟩ ⟨by decide, by decide⟩ ⟨by decide, by decide⟩ (As := [.int (r12 - (σ13.1 19))]) (n := 1) rfl hl.1 rfl (Nat.le_of_ble_eq_true rfl) dM_shorts_31 ?_
    refine lv_ior (pc := 34) hx hb dM_shorts_34 ?_
    obtain ⟨r17, σ18, hr17, hM⟩ := cl_some hM
    refine x_callMv (pc := 35) C hW (kM_half l D dA h  (x2 ||| r16) _ hr17) gM_half_556 ⟨rfl, by decide, by decide, by decide +kernel⟩ ⟨rfl, rfl⟩ ⟨by decide, by decide⟩ ⟨by decide, by decide⟩ (As := [.int (x2 ||| r16)]) (n := 1) rfl hl.1 rfl (Nat.le_of_ble_eq_true rfl) dM_shorts_35 (fun H locs hW => ?_)
    obtain ⟨rfl, rfl⟩ := sm_p hM
    exact x_retMv (pc := 38) C rfl hW dM_shorts_38
theorem kM_shorts (l : Launch) (D : va_G) (dA : Nat → ClassId) (h : Nat → Nat) (N : Nat) (x1 : Int32) (x2 : Int32) (σ : MS) {r : Int32} {σ' : MS} (hM : M_shorts N x1 x2 σ = some (r, σ')) : KM l D dA yM_shorts cM_shorts 6 none rm_shorts h σ [.int x1, .int x2] none σ' := x_enterM rfl (Nat.le_of_ble_eq_true rfl) (fun p e s m args below meth c A C hW ls hl => bM_shorts_0 N C x1 x2 σ hM s.heap [] hW ls hl)
def M_suffix_212 (t0 : Int32) (σ : MS) : Option Int32 :=
  some t0
set_option maxHeartbeats 4000000 in
set_option maxRecDepth 100000 in
theorem bM_suffix_212  {r : Int32} (C : CxM p s m args meth c cM_suffix 4 (some .int) D dA A) (t0 : Int32) (σ : MS) (hM : M_suffix_212  t0 σ = some r) (hW : WdM D dA h A s σ s.heap []) (ls : Array Slot) (hl : lv_has ls 4 []) : W p l e rm_suffix s m args below meth c s.heap [] 0 0 (MQ below (QS (some (.int r))) args s 0 0 (fun _ => False)) (F0 m 212 ls [.int t0]) := by
  have hx := C.1.1
  have hb := C.1.2.1
  have hown := C.1.2.2.2.2.1
  have hT := C.1.2.2.2.2.2.1
  unfold M_suffix_212 at hM
  obtain rfl := sm_i hM
  exact x_retS (pc := 212) C.1 rfl dM_suffix_212
def M_suffix_211  (σ : MS) : Option Int32 :=
  M_suffix_212  (0 : Int32) σ
set_option maxHeartbeats 4000000 in
set_option maxRecDepth 100000 in
theorem bM_suffix_211  {r : Int32} (C : CxM p s m args meth c cM_suffix 4 (some .int) D dA A)  (σ : MS) (hM : M_suffix_211   σ = some r) (hW : WdM D dA h A s σ s.heap []) (ls : Array Slot) (hl : lv_has ls 4 []) : W p l e rm_suffix s m args below meth c s.heap [] 0 0 (MQ below (QS (some (.int r))) args s 0 0 (fun _ => False)) (F0 m 211 ls []) := by
  have hx := C.1.1
  have hb := C.1.2.1
  have hown := C.1.2.2.2.2.1
  have hT := C.1.2.2.2.2.2.1
  unfold M_suffix_211 at hM
  refine lv_iconst (pc := 211) (v := 0) hx hb dM_suffix_211 (by decide) ?_
  exact bM_suffix_212  C  _ _ hM hW _ (lv_sub hl [] rfl)
def M_suffix_191  (σ : MS) : Option Int32 :=
  gd (inB ((σ.1 12) - (3 : Int32)) 4100) ((if (σ.2 1 ((σ.1 12) - (3 : Int32)).toNatClampNeg) = (46 : Int32) then M_suffix_212  (3 : Int32) σ else M_suffix_211  σ))
set_option maxHeartbeats 4000000 in
set_option maxRecDepth 100000 in
theorem bM_suffix_191  {r : Int32} (C : CxM p s m args meth c cM_suffix 4 (some .int) D dA A)  (σ : MS) (hM : M_suffix_191   σ = some r) (hW : WdM D dA h A s σ s.heap []) (ls : Array Slot) (hl : lv_has ls 4 [(0, .ref (h 0))]) : W p l e rm_suffix s m args below meth c s.heap [] 0 0 (MQ below (QS (some (.int r))) args s 0 0 (fun _ => False)) (F0 m 191 ls []) := by
  have hx := C.1.1
  have hb := C.1.2.1
  have hown := C.1.2.2.2.2.1
  have hT := C.1.2.2.2.2.2.1
  unfold M_suffix_191 at hM
  refine lv_aload_n (pc := 191) hx hb dM_suffix_191 rfl (lv_at hl 0 rfl) ?_
  refine gM (pc := 192) C hW 6 (by decide) q_1663 rfl rfl dM_suffix_192 ?_
  refine lv_aload_n (pc := 195) hx hb dM_suffix_195 rfl (lv_at hl 0 rfl) ?_
  refine gM (pc := 196) C hW 22 (by decide) q_1679 rfl rfl dM_suffix_196 ?_
  refine lv_iconst (pc := 199) (v := 3) hx hb dM_suffix_199 (by decide) ?_
  refine lv_isub (pc := 200) hx hb dM_suffix_200 ?_
  obtain ⟨hg1, hM⟩ := gd_some hM
  refine x_ldC (pc := 201) C hW 5 rfl hg1 dM_suffix_201 ?_
  refine lv_bipush (pc := 202) (v := 46) hx hb dM_suffix_202 (by decide) ?_
  refine lv_icmp_ne (pc := 204) (tgt := 211) hx hb dM_suffix_204 (by decide) (fun hc => ?_) (fun hc => ?_)
  · replace hM := it_f hc hM
    exact bM_suffix_211  C   _ hM hW _ (lv_sub hl [] rfl)
  · replace hM := it_t hc hM
    refine lv_iconst (pc := 207) (v := 3) hx hb dM_suffix_207 (by decide) ?_
    refine lv_goto (pc := 208) (tgt := 212) hx hb dM_suffix_208 (by decide) ?_
    exact bM_suffix_212  C  _ _ hM hW _ (lv_sub hl [] rfl)
def M_suffix_182 (x2 : Int32) (t0 : Int32) (σ : MS) : Option Int32 :=
  (if x2 = 0 then (if t0 = 0 then M_suffix_211  σ else M_suffix_191  σ) else M_suffix_191  σ)
set_option maxHeartbeats 4000000 in
set_option maxRecDepth 100000 in
theorem bM_suffix_182  {r : Int32} (C : CxM p s m args meth c cM_suffix 4 (some .int) D dA A) (x2 : Int32) (t0 : Int32) (σ : MS) (hM : M_suffix_182  x2 t0 σ = some r) (hW : WdM D dA h A s σ s.heap []) (ls : Array Slot) (hl : lv_has ls 4 [(0, .ref (h 0)), (2, .int x2)]) : W p l e rm_suffix s m args below meth c s.heap [] 0 0 (MQ below (QS (some (.int r))) args s 0 0 (fun _ => False)) (F0 m 182 ls [.int t0]) := by
  have hx := C.1.1
  have hb := C.1.2.1
  have hown := C.1.2.2.2.2.1
  have hT := C.1.2.2.2.2.2.1
  unfold M_suffix_182 at hM
  refine lv_istore_n (pc := 182) (lv' := [(3, .int t0), (0, .ref (h 0)), (2, .int x2)]) hx hb dM_suffix_182 rfl hl (by decide) rfl (fun ls hl => ?_)
  refine lv_iload_n (pc := 183) hx hb dM_suffix_183 rfl (lv_at hl 2 rfl) ?_
  refine lv_if_ne (pc := 184) (tgt := 191) hx hb dM_suffix_184 (by decide) (fun hc => ?_) (fun hc => ?_)
  · replace hM := it_f hc hM
    exact bM_suffix_191  C   _ hM hW _ (lv_sub hl [1] rfl)
  · replace hM := it_t hc hM
    refine lv_iload_n (pc := 187) hx hb dM_suffix_187 rfl (lv_at hl 0 rfl) ?_
    refine lv_if_eq (pc := 188) (tgt := 211) hx hb dM_suffix_188 (by decide) (fun hc => ?_) (fun hc => ?_)
    · replace hM := it_t hc hM
      exact bM_suffix_211  C   _ hM hW _ (lv_sub hl [] rfl)
    · replace hM := it_f hc hM
      exact bM_suffix_191  C   _ hM hW _ (lv_sub hl [1] rfl)
def M_suffix_181 (x2 : Int32) (σ : MS) : Option Int32 :=
  M_suffix_182  x2 (0 : Int32) σ
set_option maxHeartbeats 4000000 in
set_option maxRecDepth 100000 in
theorem bM_suffix_181  {r : Int32} (C : CxM p s m args meth c cM_suffix 4 (some .int) D dA A) (x2 : Int32) (σ : MS) (hM : M_suffix_181  x2 σ = some r) (hW : WdM D dA h A s σ s.heap []) (ls : Array Slot) (hl : lv_has ls 4 [(0, .ref (h 0)), (2, .int x2)]) : W p l e rm_suffix s m args below meth c s.heap [] 0 0 (MQ below (QS (some (.int r))) args s 0 0 (fun _ => False)) (F0 m 181 ls []) := by
  have hx := C.1.1
  have hb := C.1.2.1
  have hown := C.1.2.2.2.2.1
  have hT := C.1.2.2.2.2.2.1
  unfold M_suffix_181 at hM
  refine lv_iconst (pc := 181) (v := 0) hx hb dM_suffix_181 (by decide) ?_
  exact bM_suffix_182  C  _ _ _ hM hW _ (lv_sub hl [0, 1] rfl)
def M_suffix_139 (x1 : Int32) (t0 : Int32) (σ : MS) : Option Int32 :=
  (if x1 ≤ (3 : Int32) then M_suffix_181  t0 σ else gd (inB ((σ.1 12) - (2 : Int32)) 4100) ((if (σ.2 1 ((σ.1 12) - (2 : Int32)).toNatClampNeg) = (114 : Int32) then gd (inB ((σ.1 12) - (1 : Int32)) 4100) ((if (σ.2 1 ((σ.1 12) - (1 : Int32)).toNatClampNeg) = (108 : Int32) then M_suffix_182  t0 (1 : Int32) σ else M_suffix_181  t0 σ)) else M_suffix_181  t0 σ)))
set_option maxHeartbeats 4000000 in
set_option maxRecDepth 100000 in
theorem bM_suffix_139  {r : Int32} (C : CxM p s m args meth c cM_suffix 4 (some .int) D dA A) (x1 : Int32) (t0 : Int32) (σ : MS) (hM : M_suffix_139  x1 t0 σ = some r) (hW : WdM D dA h A s σ s.heap []) (ls : Array Slot) (hl : lv_has ls 4 [(0, .ref (h 0)), (1, .int x1)]) : W p l e rm_suffix s m args below meth c s.heap [] 0 0 (MQ below (QS (some (.int r))) args s 0 0 (fun _ => False)) (F0 m 139 ls [.int t0]) := by
  have hx := C.1.1
  have hb := C.1.2.1
  have hown := C.1.2.2.2.2.1
  have hT := C.1.2.2.2.2.2.1
  unfold M_suffix_139 at hM
  refine lv_istore_n (pc := 139) (lv' := [(2, .int t0), (0, .ref (h 0)), (1, .int x1)]) hx hb dM_suffix_139 rfl hl (by decide) rfl (fun ls hl => ?_)
  refine lv_iload_n (pc := 140) hx hb dM_suffix_140 rfl (lv_at hl 2 rfl) ?_
  refine lv_iconst (pc := 141) (v := 3) hx hb dM_suffix_141 (by decide) ?_
  refine lv_icmp_le (pc := 142) (tgt := 181) hx hb dM_suffix_142 (by decide) (fun hc => ?_) (fun hc => ?_)
  · replace hM := it_t hc hM
    exact bM_suffix_181  C  _ _ hM hW _ (lv_sub hl [1, 0] rfl)
  · replace hM := it_f hc hM
    refine lv_aload_n (pc := 145) hx hb dM_suffix_145 rfl (lv_at hl 1 rfl) ?_
    refine gM (pc := 146) C hW 6 (by decide) q_1663 rfl rfl dM_suffix_146 ?_
    refine lv_aload_n (pc := 149) hx hb dM_suffix_149 rfl (lv_at hl 1 rfl) ?_
    refine gM (pc := 150) C hW 22 (by decide) q_1679 rfl rfl dM_suffix_150 ?_
    refine lv_iconst (pc := 153) (v := 2) hx hb dM_suffix_153 (by decide) ?_
    refine lv_isub (pc := 154) hx hb dM_suffix_154 ?_
    obtain ⟨hg1, hM⟩ := gd_some hM
    refine x_ldC (pc := 155) C hW 5 rfl hg1 dM_suffix_155 ?_
    refine lv_bipush (pc := 156) (v := 114) hx hb dM_suffix_156 (by decide) ?_
    refine lv_icmp_ne (pc := 158) (tgt := 181) hx hb dM_suffix_158 (by decide) (fun hc => ?_) (fun hc => ?_)
    · replace hM := it_f hc hM
      exact bM_suffix_181  C  _ _ hM hW _ (lv_sub hl [1, 0] rfl)
    · replace hM := it_t hc hM
      refine lv_aload_n (pc := 161) hx hb dM_suffix_161 rfl (lv_at hl 1 rfl) ?_
      refine gM (pc := 162) C hW 6 (by decide) q_1663 rfl rfl dM_suffix_162 ?_
      refine lv_aload_n (pc := 165) hx hb dM_suffix_165 rfl (lv_at hl 1 rfl) ?_
      refine gM (pc := 166) C hW 22 (by decide) q_1679 rfl rfl dM_suffix_166 ?_
      refine lv_iconst (pc := 169) (v := 1) hx hb dM_suffix_169 (by decide) ?_
      refine lv_isub (pc := 170) hx hb dM_suffix_170 ?_
      obtain ⟨hg2, hM⟩ := gd_some hM
      refine x_ldC (pc := 171) C hW 5 rfl hg2 dM_suffix_171 ?_
      refine lv_bipush (pc := 172) (v := 108) hx hb dM_suffix_172 (by decide) ?_
      refine lv_icmp_ne (pc := 174) (tgt := 181) hx hb dM_suffix_174 (by decide) (fun hc => ?_) (fun hc => ?_)
      · replace hM := it_f hc hM
        exact bM_suffix_181  C  _ _ hM hW _ (lv_sub hl [1, 0] rfl)
      · replace hM := it_t hc hM
        refine lv_iconst (pc := 177) (v := 1) hx hb dM_suffix_177 (by decide) ?_
        refine lv_goto (pc := 178) (tgt := 182) hx hb dM_suffix_178 (by decide) ?_
        exact bM_suffix_182  C  _ _ _ hM hW _ (lv_sub hl [1, 0] rfl)
def M_suffix_138 (x1 : Int32) (σ : MS) : Option Int32 :=
  M_suffix_139  x1 (0 : Int32) σ
set_option maxHeartbeats 4000000 in
set_option maxRecDepth 100000 in
theorem bM_suffix_138  {r : Int32} (C : CxM p s m args meth c cM_suffix 4 (some .int) D dA A) (x1 : Int32) (σ : MS) (hM : M_suffix_138  x1 σ = some r) (hW : WdM D dA h A s σ s.heap []) (ls : Array Slot) (hl : lv_has ls 4 [(0, .ref (h 0)), (1, .int x1)]) : W p l e rm_suffix s m args below meth c s.heap [] 0 0 (MQ below (QS (some (.int r))) args s 0 0 (fun _ => False)) (F0 m 138 ls []) := by
  have hx := C.1.1
  have hb := C.1.2.1
  have hown := C.1.2.2.2.2.1
  have hT := C.1.2.2.2.2.2.1
  unfold M_suffix_138 at hM
  refine lv_iconst (pc := 138) (v := 0) hx hb dM_suffix_138 (by decide) ?_
  exact bM_suffix_139  C  _ _ _ hM hW _ (lv_sub hl [0, 1] rfl)
def M_suffix_97 (x1 : Int32) (σ : MS) : Option Int32 :=
  (if x1 ≤ (3 : Int32) then M_suffix_138  x1 σ else gd (inB ((σ.1 12) - (2 : Int32)) 4100) ((if (σ.2 1 ((σ.1 12) - (2 : Int32)).toNatClampNeg) = (97 : Int32) then gd (inB ((σ.1 12) - (1 : Int32)) 4100) ((if (σ.2 1 ((σ.1 12) - (1 : Int32)).toNatClampNeg) = (113 : Int32) then M_suffix_139  x1 (1 : Int32) σ else M_suffix_138  x1 σ)) else M_suffix_138  x1 σ)))
set_option maxHeartbeats 4000000 in
set_option maxRecDepth 100000 in
theorem bM_suffix_97  {r : Int32} (C : CxM p s m args meth c cM_suffix 4 (some .int) D dA A) (x1 : Int32) (σ : MS) (hM : M_suffix_97  x1 σ = some r) (hW : WdM D dA h A s σ s.heap []) (ls : Array Slot) (hl : lv_has ls 4 [(0, .ref (h 0)), (1, .int x1)]) : W p l e rm_suffix s m args below meth c s.heap [] 0 0 (MQ below (QS (some (.int r))) args s 0 0 (fun _ => False)) (F0 m 97 ls []) := by
  have hx := C.1.1
  have hb := C.1.2.1
  have hown := C.1.2.2.2.2.1
  have hT := C.1.2.2.2.2.2.1
  unfold M_suffix_97 at hM
  refine lv_iload_n (pc := 97) hx hb dM_suffix_97 rfl (lv_at hl 1 rfl) ?_
  refine lv_iconst (pc := 98) (v := 3) hx hb dM_suffix_98 (by decide) ?_
  refine lv_icmp_le (pc := 99) (tgt := 138) hx hb dM_suffix_99 (by decide) (fun hc => ?_) (fun hc => ?_)
  · replace hM := it_t hc hM
    exact bM_suffix_138  C  _ _ hM hW _ (lv_sub hl [0, 1] rfl)
  · replace hM := it_f hc hM
    refine lv_aload_n (pc := 102) hx hb dM_suffix_102 rfl (lv_at hl 0 rfl) ?_
    refine gM (pc := 103) C hW 6 (by decide) q_1663 rfl rfl dM_suffix_103 ?_
    refine lv_aload_n (pc := 106) hx hb dM_suffix_106 rfl (lv_at hl 0 rfl) ?_
    refine gM (pc := 107) C hW 22 (by decide) q_1679 rfl rfl dM_suffix_107 ?_
    refine lv_iconst (pc := 110) (v := 2) hx hb dM_suffix_110 (by decide) ?_
    refine lv_isub (pc := 111) hx hb dM_suffix_111 ?_
    obtain ⟨hg1, hM⟩ := gd_some hM
    refine x_ldC (pc := 112) C hW 5 rfl hg1 dM_suffix_112 ?_
    refine lv_bipush (pc := 113) (v := 97) hx hb dM_suffix_113 (by decide) ?_
    refine lv_icmp_ne (pc := 115) (tgt := 138) hx hb dM_suffix_115 (by decide) (fun hc => ?_) (fun hc => ?_)
    · replace hM := it_f hc hM
      exact bM_suffix_138  C  _ _ hM hW _ (lv_sub hl [0, 1] rfl)
    · replace hM := it_t hc hM
      refine lv_aload_n (pc := 118) hx hb dM_suffix_118 rfl (lv_at hl 0 rfl) ?_
      refine gM (pc := 119) C hW 6 (by decide) q_1663 rfl rfl dM_suffix_119 ?_
      refine lv_aload_n (pc := 122) hx hb dM_suffix_122 rfl (lv_at hl 0 rfl) ?_
      refine gM (pc := 123) C hW 22 (by decide) q_1679 rfl rfl dM_suffix_123 ?_
      refine lv_iconst (pc := 126) (v := 1) hx hb dM_suffix_126 (by decide) ?_
      refine lv_isub (pc := 127) hx hb dM_suffix_127 ?_
      obtain ⟨hg2, hM⟩ := gd_some hM
      refine x_ldC (pc := 128) C hW 5 rfl hg2 dM_suffix_128 ?_
      refine lv_bipush (pc := 129) (v := 113) hx hb dM_suffix_129 (by decide) ?_
      refine lv_icmp_ne (pc := 131) (tgt := 138) hx hb dM_suffix_131 (by decide) (fun hc => ?_) (fun hc => ?_)
      · replace hM := it_f hc hM
        exact bM_suffix_138  C  _ _ hM hW _ (lv_sub hl [0, 1] rfl)
      · replace hM := it_t hc hM
        refine lv_iconst (pc := 134) (v := 1) hx hb dM_suffix_134 (by decide) ?_
        refine lv_goto (pc := 135) (tgt := 139) hx hb dM_suffix_135 (by decide) ?_
        exact bM_suffix_139  C  _ _ _ hM hW _ (lv_sub hl [0, 1] rfl)
def M_suffix  (σ : MS) : Option Int32 :=
  (if ((σ.1 12) - (σ.1 11)) ≤ (5 : Int32) then M_suffix_97  ((σ.1 12) - (σ.1 11)) σ else gd (inB ((σ.1 12) - (5 : Int32)) 4100) ((if (σ.2 1 ((σ.1 12) - (5 : Int32)).toNatClampNeg) = (46 : Int32) then gd (inB ((σ.1 12) - (4 : Int32)) 4100) ((if (σ.2 1 ((σ.1 12) - (4 : Int32)).toNatClampNeg) = (97 : Int32) then gd (inB ((σ.1 12) - (3 : Int32)) 4100) ((if (σ.2 1 ((σ.1 12) - (3 : Int32)).toNatClampNeg) = (113 : Int32) then gd (inB ((σ.1 12) - (2 : Int32)) 4100) ((if (σ.2 1 ((σ.1 12) - (2 : Int32)).toNatClampNeg) = (114 : Int32) then gd (inB ((σ.1 12) - (1 : Int32)) 4100) ((if (σ.2 1 ((σ.1 12) - (1 : Int32)).toNatClampNeg) = (108 : Int32) then some (5 : Int32) else M_suffix_97  ((σ.1 12) - (σ.1 11)) σ)) else M_suffix_97  ((σ.1 12) - (σ.1 11)) σ)) else M_suffix_97  ((σ.1 12) - (σ.1 11)) σ)) else M_suffix_97  ((σ.1 12) - (σ.1 11)) σ)) else M_suffix_97  ((σ.1 12) - (σ.1 11)) σ)))
set_option maxHeartbeats 4000000 in
set_option maxRecDepth 100000 in
theorem bM_suffix_0  {r : Int32} (C : CxM p s m args meth c cM_suffix 4 (some .int) D dA A)  (σ : MS) (hM : M_suffix   σ = some r) (hW : WdM D dA h A s σ s.heap []) (ls : Array Slot) (hl : lv_has ls 4 [(0, .ref (h 0))]) : W p l e rm_suffix s m args below meth c s.heap [] 0 0 (MQ below (QS (some (.int r))) args s 0 0 (fun _ => False)) (F0 m 0 ls []) := by
  have hx := C.1.1
  have hb := C.1.2.1
  have hown := C.1.2.2.2.2.1
  have hT := C.1.2.2.2.2.2.1
  unfold M_suffix at hM
  refine lv_aload_n (pc := 0) hx hb dM_suffix_0 rfl (lv_at hl 0 rfl) ?_
  refine gM (pc := 1) C hW 22 (by decide) q_1679 rfl rfl dM_suffix_1 ?_
  refine lv_aload_n (pc := 4) hx hb dM_suffix_4 rfl (lv_at hl 0 rfl) ?_
  refine gM (pc := 5) C hW 21 (by decide) q_1678 rfl rfl dM_suffix_5 ?_
  refine lv_isub (pc := 8) hx hb dM_suffix_8 ?_
  refine lv_istore_n (pc := 9) (lv' := [(1, .int ((σ.1 12) - (σ.1 11))), (0, .ref (h 0))]) hx hb dM_suffix_9 rfl hl (by decide) rfl (fun ls hl => ?_)
  refine lv_iload_n (pc := 10) hx hb dM_suffix_10 rfl (lv_at hl 0 rfl) ?_
  refine lv_iconst (pc := 11) (v := 5) hx hb dM_suffix_11 (by decide) ?_
  refine lv_icmp_le (pc := 12) (tgt := 97) hx hb dM_suffix_12 (by decide) (fun hc => ?_) (fun hc => ?_)
  · replace hM := it_t hc hM
    exact bM_suffix_97  C  _ _ hM hW _ (lv_sub hl [1, 0] rfl)
  · replace hM := it_f hc hM
    refine lv_aload_n (pc := 15) hx hb dM_suffix_15 rfl (lv_at hl 1 rfl) ?_
    refine gM (pc := 16) C hW 6 (by decide) q_1663 rfl rfl dM_suffix_16 ?_
    refine lv_aload_n (pc := 19) hx hb dM_suffix_19 rfl (lv_at hl 1 rfl) ?_
    refine gM (pc := 20) C hW 22 (by decide) q_1679 rfl rfl dM_suffix_20 ?_
    refine lv_iconst (pc := 23) (v := 5) hx hb dM_suffix_23 (by decide) ?_
    refine lv_isub (pc := 24) hx hb dM_suffix_24 ?_
    obtain ⟨hg1, hM⟩ := gd_some hM
    refine x_ldC (pc := 25) C hW 5 rfl hg1 dM_suffix_25 ?_
    refine lv_bipush (pc := 26) (v := 46) hx hb dM_suffix_26 (by decide) ?_
    refine lv_icmp_ne (pc := 28) (tgt := 97) hx hb dM_suffix_28 (by decide) (fun hc => ?_) (fun hc => ?_)
    · replace hM := it_f hc hM
      exact bM_suffix_97  C  _ _ hM hW _ (lv_sub hl [1, 0] rfl)
    · replace hM := it_t hc hM
      refine lv_aload_n (pc := 31) hx hb dM_suffix_31 rfl (lv_at hl 1 rfl) ?_
      refine gM (pc := 32) C hW 6 (by decide) q_1663 rfl rfl dM_suffix_32 ?_
      refine lv_aload_n (pc := 35) hx hb dM_suffix_35 rfl (lv_at hl 1 rfl) ?_
      refine gM (pc := 36) C hW 22 (by decide) q_1679 rfl rfl dM_suffix_36 ?_
      refine lv_iconst (pc := 39) (v := 4) hx hb dM_suffix_39 (by decide) ?_
      refine lv_isub (pc := 40) hx hb dM_suffix_40 ?_
      obtain ⟨hg2, hM⟩ := gd_some hM
      refine x_ldC (pc := 41) C hW 5 rfl hg2 dM_suffix_41 ?_
      refine lv_bipush (pc := 42) (v := 97) hx hb dM_suffix_42 (by decide) ?_
      refine lv_icmp_ne (pc := 44) (tgt := 97) hx hb dM_suffix_44 (by decide) (fun hc => ?_) (fun hc => ?_)
      · replace hM := it_f hc hM
        exact bM_suffix_97  C  _ _ hM hW _ (lv_sub hl [1, 0] rfl)
      · replace hM := it_t hc hM
        refine lv_aload_n (pc := 47) hx hb dM_suffix_47 rfl (lv_at hl 1 rfl) ?_
        refine gM (pc := 48) C hW 6 (by decide) q_1663 rfl rfl dM_suffix_48 ?_
        refine lv_aload_n (pc := 51) hx hb dM_suffix_51 rfl (lv_at hl 1 rfl) ?_
        refine gM (pc := 52) C hW 22 (by decide) q_1679 rfl rfl dM_suffix_52 ?_
        refine lv_iconst (pc := 55) (v := 3) hx hb dM_suffix_55 (by decide) ?_
        refine lv_isub (pc := 56) hx hb dM_suffix_56 ?_
        obtain ⟨hg3, hM⟩ := gd_some hM
        refine x_ldC (pc := 57) C hW 5 rfl hg3 dM_suffix_57 ?_
        refine lv_bipush (pc := 58) (v := 113) hx hb dM_suffix_58 (by decide) ?_
        refine lv_icmp_ne (pc := 60) (tgt := 97) hx hb dM_suffix_60 (by decide) (fun hc => ?_) (fun hc => ?_)
        · replace hM := it_f hc hM
          exact bM_suffix_97  C  _ _ hM hW _ (lv_sub hl [1, 0] rfl)
        · replace hM := it_t hc hM
          refine lv_aload_n (pc := 63) hx hb dM_suffix_63 rfl (lv_at hl 1 rfl) ?_
          refine gM (pc := 64) C hW 6 (by decide) q_1663 rfl rfl dM_suffix_64 ?_
          refine lv_aload_n (pc := 67) hx hb dM_suffix_67 rfl (lv_at hl 1 rfl) ?_
          refine gM (pc := 68) C hW 22 (by decide) q_1679 rfl rfl dM_suffix_68 ?_
          refine lv_iconst (pc := 71) (v := 2) hx hb dM_suffix_71 (by decide) ?_
          refine lv_isub (pc := 72) hx hb dM_suffix_72 ?_
          obtain ⟨hg4, hM⟩ := gd_some hM
          refine x_ldC (pc := 73) C hW 5 rfl hg4 dM_suffix_73 ?_
          refine lv_bipush (pc := 74) (v := 114) hx hb dM_suffix_74 (by decide) ?_
          refine lv_icmp_ne (pc := 76) (tgt := 97) hx hb dM_suffix_76 (by decide) (fun hc => ?_) (fun hc => ?_)
          · replace hM := it_f hc hM
            exact bM_suffix_97  C  _ _ hM hW _ (lv_sub hl [1, 0] rfl)
          · replace hM := it_t hc hM
            refine lv_aload_n (pc := 79) hx hb dM_suffix_79 rfl (lv_at hl 1 rfl) ?_
            refine gM (pc := 80) C hW 6 (by decide) q_1663 rfl rfl dM_suffix_80 ?_
            refine lv_aload_n (pc := 83) hx hb dM_suffix_83 rfl (lv_at hl 1 rfl) ?_
            refine gM (pc := 84) C hW 22 (by decide) q_1679 rfl rfl dM_suffix_84 ?_
            refine lv_iconst (pc := 87) (v := 1) hx hb dM_suffix_87 (by decide) ?_
            refine lv_isub (pc := 88) hx hb dM_suffix_88 ?_
            obtain ⟨hg5, hM⟩ := gd_some hM
            refine x_ldC (pc := 89) C hW 5 rfl hg5 dM_suffix_89 ?_
            refine lv_bipush (pc := 90) (v := 108) hx hb dM_suffix_90 (by decide) ?_
            refine lv_icmp_ne (pc := 92) (tgt := 97) hx hb dM_suffix_92 (by decide) (fun hc => ?_) (fun hc => ?_)
            · replace hM := it_f hc hM
              exact bM_suffix_97  C  _ _ hM hW _ (lv_sub hl [1, 0] rfl)
            · replace hM := it_t hc hM
              refine lv_iconst (pc := 95) (v := 5) hx hb dM_suffix_95 (by decide) ?_
              obtain rfl := sm_i hM
              exact x_retS (pc := 96) C.1 rfl dM_suffix_96
theorem kM_suffix (l : Launch) (D : va_G) (dA : Nat → ClassId) (h : Nat → Nat)  (σ : MS) {r : Int32} (hM : M_suffix  σ = some r) : KR l D dA yM_suffix cM_suffix 4 (some .int) rm_suffix h σ [] (some (.int r)) := x_enterR rfl (Nat.le_of_ble_eq_true rfl) (fun p e s m args below meth c A C hW ls hl => bM_suffix_0 C  σ hM hW ls hl)
def M_statement_351 (N : Nat)  (σ : MS) : Option (Int32 × MS) :=
  some ((0 : Int32), σ)
set_option maxHeartbeats 4000000 in
set_option maxRecDepth 100000 in
theorem bM_statement_351 (N : Nat)  {r : Int32} {σ' : MS} (C : CxM p s m args meth c cM_statement 8 none D dA A)  (σ : MS) (hM : M_statement_351 N   σ = some (r, σ')) (H : Heap) (locs : List Loc) (hW : WdM D dA h A s σ H locs) (ls : Array Slot) (hl : lv_has ls 8 []) : W p l e rm_statement s m args below meth c H locs 0 0 (MQ below (QM D dA h A σ' none) args s 0 0 A) (F0 m 351 ls []) := by
  have hx := C.1.1
  have hb := C.1.2.1
  have hown := C.1.2.2.2.2.1
  have hT := C.1.2.2.2.2.2.1
  unfold M_statement_351 at hM
  obtain ⟨rfl, rfl⟩ := sm_p hM
  exact x_retMv (pc := 351) C rfl hW dM_statement_351
def M_statement_331 (N : Nat)  (σ : MS) : Option (Int32 × MS) :=
  (if (σ.1 17) = 0 then (if (σ.1 14) = 0 then cl (M_needs N (0 : Int32) σ) (fun r1 σ2 => M_statement_351 N  σ2) else M_statement_351 N  σ) else M_statement_351 N  σ)
set_option maxHeartbeats 4000000 in
set_option maxRecDepth 100000 in
theorem bM_statement_331 (N : Nat)  {r : Int32} {σ' : MS} (C : CxM p s m args meth c cM_statement 8 none D dA A)  (σ : MS) (hM : M_statement_331 N   σ = some (r, σ')) (H : Heap) (locs : List Loc) (hW : WdM D dA h A s σ H locs) (ls : Array Slot) (hl : lv_has ls 8 [(0, .ref (h 0))]) : W p l e rm_statement s m args below meth c H locs 0 0 (MQ below (QM D dA h A σ' none) args s 0 0 A) (F0 m 331 ls []) := by
  have hx := C.1.1
  have hb := C.1.2.1
  have hown := C.1.2.2.2.2.1
  have hT := C.1.2.2.2.2.2.1
  unfold M_statement_331 at hM
  refine lv_aload_n (pc := 331) hx hb dM_statement_331 rfl (lv_at hl 0 rfl) ?_
  refine gM (pc := 332) C hW 27 (by decide) q_1684 rfl rfl dM_statement_332 ?_
  refine lv_if_ne (pc := 335) (tgt := 351) hx hb dM_statement_335 (by decide) (fun hc => ?_) (fun hc => ?_)
  · replace hM := it_f hc hM
    exact bM_statement_351 N  C   _ hM _ _ hW _ (lv_sub hl [] rfl)
  · replace hM := it_t hc hM
    refine lv_aload_n (pc := 338) hx hb dM_statement_338 rfl (lv_at hl 0 rfl) ?_
    refine gM (pc := 339) C hW 24 (by decide) q_1681 rfl rfl dM_statement_339 ?_
    refine lv_if_ne (pc := 342) (tgt := 351) hx hb dM_statement_342 (by decide) (fun hc => ?_) (fun hc => ?_)
    · replace hM := it_f hc hM
      exact bM_statement_351 N  C   _ hM _ _ hW _ (lv_sub hl [] rfl)
    · replace hM := it_t hc hM
      refine lv_aload_n (pc := 345) hx hb dM_statement_345 rfl (lv_at hl 0 rfl) ?_
      refine lv_iconst (pc := 346) (v := 0) hx hb dM_statement_346 (by decide) ?_
      obtain ⟨r1, σ2, hr1, hM⟩ := cl_some hM
      refine x_callMi (pc := 347) C hW (kM_needs l D dA h N (0 : Int32) _ hr1) gM_needs_515 ⟨rfl, by decide, by decide, by decide +kernel⟩ ⟨rfl, rfl⟩ ⟨by decide, by decide⟩ ⟨by decide, by decide⟩ (As := [.int (0 : Int32)]) (n := 1) rfl hl.1 rfl (Nat.le_of_ble_eq_true rfl) dM_statement_347 (fun H locs hW => ?_)
      refine lv_pop (pc := 350) hx hb dM_statement_350 rfl ?_
      exact bM_statement_351 N  C   _ hM _ _ hW _ (lv_sub hl [] rfl)
def M_statement_237 (N : Nat) (x6 : Int32) (x7 : Int32) (σ : MS) : Option (Int32 × MS) :=
  cl (M_jumps N x6 x7 σ) (fun r1 σ2 => M_statement_331 N  σ2)
set_option maxHeartbeats 4000000 in
set_option maxRecDepth 100000 in
theorem bM_statement_237 (N : Nat)  {r : Int32} {σ' : MS} (C : CxM p s m args meth c cM_statement 8 none D dA A) (x6 : Int32) (x7 : Int32) (σ : MS) (hM : M_statement_237 N  x6 x7 σ = some (r, σ')) (H : Heap) (locs : List Loc) (hW : WdM D dA h A s σ H locs) (ls : Array Slot) (hl : lv_has ls 8 [(0, .ref (h 0)), (6, .int x6), (7, .int x7)]) : W p l e rm_statement s m args below meth c H locs 0 0 (MQ below (QM D dA h A σ' none) args s 0 0 A) (F0 m 237 ls []) := by
  have hx := C.1.1
  have hb := C.1.2.1
  have hown := C.1.2.2.2.2.1
  have hT := C.1.2.2.2.2.2.1
  unfold M_statement_237 at hM
  refine lv_aload_n (pc := 237) hx hb dM_statement_237 rfl (lv_at hl 0 rfl) ?_
  refine lv_iload (pc := 238) hx hb dM_statement_238 (lv_at hl 1 rfl) ?_
  refine lv_iload (pc := 240) hx hb dM_statement_240 (lv_at hl 2 rfl) ?_
  obtain ⟨r1, σ2, hr1, hM⟩ := cl_some hM
  refine x_callMv (pc := 242) C hW (kM_jumps l D dA h N x6 x7 _ hr1) gM_jumps_667 ⟨rfl, by decide, by decide, by decide +kernel⟩ ⟨rfl, rfl⟩ ⟨by decide, by decide⟩ ⟨by decide, by decide⟩ (As := [.int x6, .int x7]) (n := 2) rfl hl.1 rfl (Nat.le_of_ble_eq_true rfl) dM_statement_242 (fun H locs hW => ?_)
  refine lv_goto (pc := 245) (tgt := 331) hx hb dM_statement_245 (by decide) ?_
  exact bM_statement_331 N  C   _ hM _ _ hW _ (lv_sub hl [0] rfl)
def M_statement_269 (N : Nat) (x6 : Int32) (x7 : Int32) (σ : MS) : Option (Int32 × MS) :=
  cl (M_branches N x6 x7 σ) (fun r1 σ2 => M_statement_331 N  σ2)
set_option maxHeartbeats 4000000 in
set_option maxRecDepth 100000 in
theorem bM_statement_269 (N : Nat)  {r : Int32} {σ' : MS} (C : CxM p s m args meth c cM_statement 8 none D dA A) (x6 : Int32) (x7 : Int32) (σ : MS) (hM : M_statement_269 N  x6 x7 σ = some (r, σ')) (H : Heap) (locs : List Loc) (hW : WdM D dA h A s σ H locs) (ls : Array Slot) (hl : lv_has ls 8 [(0, .ref (h 0)), (6, .int x6), (7, .int x7)]) : W p l e rm_statement s m args below meth c H locs 0 0 (MQ below (QM D dA h A σ' none) args s 0 0 A) (F0 m 269 ls []) := by
  have hx := C.1.1
  have hb := C.1.2.1
  have hown := C.1.2.2.2.2.1
  have hT := C.1.2.2.2.2.2.1
  unfold M_statement_269 at hM
  refine lv_aload_n (pc := 269) hx hb dM_statement_269 rfl (lv_at hl 0 rfl) ?_
  refine lv_iload (pc := 270) hx hb dM_statement_270 (lv_at hl 1 rfl) ?_
  refine lv_iload (pc := 272) hx hb dM_statement_272 (lv_at hl 2 rfl) ?_
  obtain ⟨r1, σ2, hr1, hM⟩ := cl_some hM
  refine x_callMv (pc := 274) C hW (kM_branches l D dA h N x6 x7 _ hr1) gM_branches_670 ⟨rfl, by decide, by decide, by decide +kernel⟩ ⟨rfl, rfl⟩ ⟨by decide, by decide⟩ ⟨by decide, by decide⟩ (As := [.int x6, .int x7]) (n := 2) rfl hl.1 rfl (Nat.le_of_ble_eq_true rfl) dM_statement_274 (fun H locs hW => ?_)
  refine lv_goto (pc := 277) (tgt := 331) hx hb dM_statement_277 (by decide) ?_
  exact bM_statement_331 N  C   _ hM _ _ hW _ (lv_sub hl [0] rfl)
def M_statement_294 (N : Nat) (x6 : Int32) (x7 : Int32) (σ : MS) : Option (Int32 × MS) :=
  cl (M_longs N x6 x7 σ) (fun r1 σ2 => M_statement_331 N  σ2)
set_option maxHeartbeats 4000000 in
set_option maxRecDepth 100000 in
theorem bM_statement_294 (N : Nat)  {r : Int32} {σ' : MS} (C : CxM p s m args meth c cM_statement 8 none D dA A) (x6 : Int32) (x7 : Int32) (σ : MS) (hM : M_statement_294 N  x6 x7 σ = some (r, σ')) (H : Heap) (locs : List Loc) (hW : WdM D dA h A s σ H locs) (ls : Array Slot) (hl : lv_has ls 8 [(0, .ref (h 0)), (6, .int x6), (7, .int x7)]) : W p l e rm_statement s m args below meth c H locs 0 0 (MQ below (QM D dA h A σ' none) args s 0 0 A) (F0 m 294 ls []) := by
  have hx := C.1.1
  have hb := C.1.2.1
  have hown := C.1.2.2.2.2.1
  have hT := C.1.2.2.2.2.2.1
  unfold M_statement_294 at hM
  refine lv_aload_n (pc := 294) hx hb dM_statement_294 rfl (lv_at hl 0 rfl) ?_
  refine lv_iload (pc := 295) hx hb dM_statement_295 (lv_at hl 1 rfl) ?_
  refine lv_iload (pc := 297) hx hb dM_statement_297 (lv_at hl 2 rfl) ?_
  obtain ⟨r1, σ2, hr1, hM⟩ := cl_some hM
  refine x_callMv (pc := 299) C hW (kM_longs l D dA h N x6 x7 _ hr1) gM_longs_673 ⟨rfl, by decide, by decide, by decide +kernel⟩ ⟨rfl, rfl⟩ ⟨by decide, by decide⟩ ⟨by decide, by decide⟩ (As := [.int x6, .int x7]) (n := 2) rfl hl.1 rfl (Nat.le_of_ble_eq_true rfl) dM_statement_299 (fun H locs hW => ?_)
  refine lv_goto (pc := 302) (tgt := 331) hx hb dM_statement_302 (by decide) ?_
  exact bM_statement_331 N  C   _ hM _ _ hW _ (lv_sub hl [0] rfl)
def M_statement_280 (N : Nat) (x6 : Int32) (x7 : Int32) (σ : MS) : Option (Int32 × MS) :=
  (if x6 < (12 : Int32) then M_statement_294 N  x6 x7 σ else (if x6 = (30 : Int32) then M_statement_294 N  x6 x7 σ else (if (30 : Int32) ≤ x6 then cl (M_others N x6 x7 σ) (fun r1 σ2 => M_statement_331 N  σ2) else cl (M_shorts N x6 x7 σ) (fun r3 σ4 => M_statement_331 N  σ4))))
set_option maxHeartbeats 4000000 in
set_option maxRecDepth 100000 in
theorem bM_statement_280 (N : Nat)  {r : Int32} {σ' : MS} (C : CxM p s m args meth c cM_statement 8 none D dA A) (x6 : Int32) (x7 : Int32) (σ : MS) (hM : M_statement_280 N  x6 x7 σ = some (r, σ')) (H : Heap) (locs : List Loc) (hW : WdM D dA h A s σ H locs) (ls : Array Slot) (hl : lv_has ls 8 [(0, .ref (h 0)), (6, .int x6), (7, .int x7)]) : W p l e rm_statement s m args below meth c H locs 0 0 (MQ below (QM D dA h A σ' none) args s 0 0 A) (F0 m 280 ls []) := by
  have hx := C.1.1
  have hb := C.1.2.1
  have hown := C.1.2.2.2.2.1
  have hT := C.1.2.2.2.2.2.1
  unfold M_statement_280 at hM
  refine lv_iload (pc := 280) hx hb dM_statement_280 (lv_at hl 1 rfl) ?_
  refine lv_bipush (pc := 282) (v := 12) hx hb dM_statement_282 (by decide) ?_
  refine lv_icmp_lt (pc := 284) (tgt := 294) hx hb dM_statement_284 (by decide) (fun hc => ?_) (fun hc => ?_)
  · replace hM := it_t hc hM
    exact bM_statement_294 N  C  _ _ _ hM _ _ hW _ (lv_sub hl [0, 1, 2] rfl)
  · replace hM := it_f hc hM
    refine lv_iload (pc := 287) hx hb dM_statement_287 (lv_at hl 1 rfl) ?_
    refine lv_bipush (pc := 289) (v := 30) hx hb dM_statement_289 (by decide) ?_
    refine lv_icmp_ne (pc := 291) (tgt := 305) hx hb dM_statement_291 (by decide) (fun hc => ?_) (fun hc => ?_)
    · replace hM := it_f hc hM
      refine lv_iload (pc := 305) hx hb dM_statement_305 (lv_at hl 1 rfl) ?_
      refine lv_bipush (pc := 307) (v := 30) hx hb dM_statement_307 (by decide) ?_
      refine lv_icmp_ge (pc := 309) (tgt := 323) hx hb dM_statement_309 (by decide) (fun hc => ?_) (fun hc => ?_)
      · replace hM := it_t hc hM
        refine lv_aload_n (pc := 323) hx hb dM_statement_323 rfl (lv_at hl 0 rfl) ?_
        refine lv_iload (pc := 324) hx hb dM_statement_324 (lv_at hl 1 rfl) ?_
        refine lv_iload (pc := 326) hx hb dM_statement_326 (lv_at hl 2 rfl) ?_
        obtain ⟨r1, σ2, hr1, hM⟩ := cl_some hM
        refine x_callMv (pc := 328) C hW (kM_others l D dA h N x6 x7 _ hr1) gM_others_679 ⟨rfl, by decide, by decide, by decide +kernel⟩ ⟨rfl, rfl⟩ ⟨by decide, by decide⟩ ⟨by decide, by decide⟩ (As := [.int x6, .int x7]) (n := 2) rfl hl.1 rfl (Nat.le_of_ble_eq_true rfl) dM_statement_328 (fun H locs hW => ?_)
        exact bM_statement_331 N  C   _ hM _ _ hW _ (lv_sub hl [0] rfl)
      · replace hM := it_f hc hM
        refine lv_aload_n (pc := 312) hx hb dM_statement_312 rfl (lv_at hl 0 rfl) ?_
        refine lv_iload (pc := 313) hx hb dM_statement_313 (lv_at hl 1 rfl) ?_
        refine lv_iload (pc := 315) hx hb dM_statement_315 (lv_at hl 2 rfl) ?_
        obtain ⟨r3, σ4, hr3, hM⟩ := cl_some hM
        refine x_callMv (pc := 317) C hW (kM_shorts l D dA h N x6 x7 _ hr3) gM_shorts_676 ⟨rfl, by decide, by decide, by decide +kernel⟩ ⟨rfl, rfl⟩ ⟨by decide, by decide⟩ ⟨by decide, by decide⟩ (As := [.int x6, .int x7]) (n := 2) rfl hl.1 rfl (Nat.le_of_ble_eq_true rfl) dM_statement_317 (fun H locs hW => ?_)
        refine lv_goto (pc := 320) (tgt := 331) hx hb dM_statement_320 (by decide) ?_
        exact bM_statement_331 N  C   _ hM _ _ hW _ (lv_sub hl [0] rfl)
    · replace hM := it_t hc hM
      exact bM_statement_294 N  C  _ _ _ hM _ _ hW _ (lv_sub hl [0, 1, 2] rfl)
def M_statement_141 (N : Nat) (x4 : Int32) (x5 : Int32) (σ : MS) : Option (Int32 × MS) :=
  (if 0 ≤ x4 then gd (inB x4 128) (gd (inB x4 128) ((if (M_shapes x4.toNatClampNeg) ≤ (39 : Int32) then (if (M_shapes x4.toNatClampNeg) = (12 : Int32) then cl (M_word  ((M_patterns x4.toNatClampNeg) ||| x5) σ) (fun r5 σ6 => M_statement_331 N  σ6) else (if (M_shapes x4.toNatClampNeg) = (16 : Int32) then cl (M_half  ((M_patterns x4.toNatClampNeg) ||| x5) σ) (fun r3 σ4 => M_statement_331 N  σ4) else (if (M_shapes x4.toNatClampNeg) = (8 : Int32) then M_statement_237 N  (M_shapes x4.toNatClampNeg) ((M_patterns x4.toNatClampNeg) ||| x5) σ else (if (M_shapes x4.toNatClampNeg) = (34 : Int32) then M_statement_237 N  (M_shapes x4.toNatClampNeg) ((M_patterns x4.toNatClampNeg) ||| x5) σ else (if (M_shapes x4.toNatClampNeg) = (7 : Int32) then M_statement_269 N  (M_shapes x4.toNatClampNeg) ((M_patterns x4.toNatClampNeg) ||| x5) σ else (if (M_shapes x4.toNatClampNeg) ≤ (34 : Int32) then M_statement_280 N  (M_shapes x4.toNatClampNeg) ((M_patterns x4.toNatClampNeg) ||| x5) σ else (if (38 : Int32) ≤ (M_shapes x4.toNatClampNeg) then M_statement_280 N  (M_shapes x4.toNatClampNeg) ((M_patterns x4.toNatClampNeg) ||| x5) σ else M_statement_269 N  (M_shapes x4.toNatClampNeg) ((M_patterns x4.toNatClampNeg) ||| x5) σ))))))) else cl (M_directive N (M_shapes x4.toNatClampNeg) ((M_patterns x4.toNatClampNeg) ||| x5) σ) (fun r7 σ8 => M_statement_331 N  σ8)))) else cl (M_blame  (2 : Int32) σ) (fun r9 σ10 => some ((0 : Int32), σ10)))
set_option maxHeartbeats 4000000 in
set_option maxRecDepth 100000 in
theorem bM_statement_141 (N : Nat)  {r : Int32} {σ' : MS} (C : CxM p s m args meth c cM_statement 8 none D dA A) (x4 : Int32) (x5 : Int32) (σ : MS) (hM : M_statement_141 N  x4 x5 σ = some (r, σ')) (H : Heap) (locs : List Loc) (hW : WdM D dA h A s σ H locs) (ls : Array Slot) (hl : lv_has ls 8 [(0, .ref (h 0)), (4, .int x4), (5, .int x5)]) : W p l e rm_statement s m args below meth c H locs 0 0 (MQ below (QM D dA h A σ' none) args s 0 0 A) (F0 m 141 ls []) := by
  have hx := C.1.1
  have hb := C.1.2.1
  have hown := C.1.2.2.2.2.1
  have hT := C.1.2.2.2.2.2.1
  unfold M_statement_141 at hM
  refine lv_iload (pc := 141) hx hb dM_statement_141 (lv_at hl 1 rfl) ?_
  refine lv_if_ge (pc := 143) (tgt := 152) hx hb dM_statement_143 (by decide) (fun hc => ?_) (fun hc => ?_)
  · replace hM := it_t hc hM
    refine lv_aload_n (pc := 152) hx hb dM_statement_152 rfl (lv_at hl 0 rfl) ?_
    refine gM (pc := 153) C hW 1 (by decide) q_1658 rfl rfl dM_statement_153 ?_
    refine lv_iload (pc := 156) hx hb dM_statement_156 (lv_at hl 1 rfl) ?_
    obtain ⟨hg1, hM⟩ := gd_some hM
    refine x_ldB (pc := 158) C hW 2 rfl hg1 dM_statement_158 ?_
    refine lv_istore (pc := 159) (lv' := [(6, .int (M_shapes x4.toNatClampNeg)), (0, .ref (h 0)), (4, .int x4), (5, .int x5)]) hx hb dM_statement_159 hl (by decide) rfl (fun ls hl => ?_)
    refine lv_aload_n (pc := 161) hx hb dM_statement_161 rfl (lv_at hl 1 rfl) ?_
    refine gM (pc := 162) C hW 2 (by decide) q_1659 rfl rfl dM_statement_162 ?_
    refine lv_iload (pc := 165) hx hb dM_statement_165 (lv_at hl 2 rfl) ?_
    obtain ⟨hg2, hM⟩ := gd_some hM
    refine x_ldI (pc := 167) C hW 3 rfl hg2 dM_statement_167 ?_
    refine lv_iload (pc := 168) hx hb dM_statement_168 (lv_at hl 3 rfl) ?_
    refine lv_ior (pc := 170) hx hb dM_statement_170 ?_
    refine lv_istore (pc := 171) (lv' := [(7, .int ((M_patterns x4.toNatClampNeg) ||| x5)), (6, .int (M_shapes x4.toNatClampNeg)), (0, .ref (h 0)), (4, .int x4), (5, .int x5)]) hx hb dM_statement_171 hl (by decide) rfl (fun ls hl => ?_)
    refine lv_iload (pc := 173) hx hb dM_statement_173 (lv_at hl 1 rfl) ?_
    refine lv_bipush (pc := 175) (v := 39) hx hb dM_statement_175 (by decide) ?_
    refine lv_icmp_le (pc := 177) (tgt := 191) hx hb dM_statement_177 (by decide) (fun hc => ?_) (fun hc => ?_)
    · replace hM := it_t hc hM
      refine lv_iload (pc := 191) hx hb dM_statement_191 (lv_at hl 1 rfl) ?_
      refine lv_bipush (pc := 193) (v := 12) hx hb dM_statement_193 (by decide) ?_
      refine lv_icmp_ne (pc := 195) (tgt := 207) hx hb dM_statement_195 (by decide) (fun hc => ?_) (fun hc => ?_)
      · replace hM := it_f hc hM
        refine lv_iload (pc := 207) hx hb dM_statement_207 (lv_at hl 1 rfl) ?_
        refine lv_bipush (pc := 209) (v := 16) hx hb dM_statement_209 (by decide) ?_
        refine lv_icmp_ne (pc := 211) (tgt := 223) hx hb dM_statement_211 (by decide) (fun hc => ?_) (fun hc => ?_)
        · replace hM := it_f hc hM
          refine lv_iload (pc := 223) hx hb dM_statement_223 (lv_at hl 1 rfl) ?_
          refine lv_bipush (pc := 225) (v := 8) hx hb dM_statement_225 (by decide) ?_
          refine lv_icmp_eq (pc := 227) (tgt := 237) hx hb dM_statement_227 (by decide) (fun hc => ?_) (fun hc => ?_)
          · replace hM := it_t hc hM
            exact bM_statement_237 N  C  _ _ _ hM _ _ hW _ (lv_sub hl [2, 1, 0] rfl)
          · replace hM := it_f hc hM
            refine lv_iload (pc := 230) hx hb dM_statement_230 (lv_at hl 1 rfl) ?_
            refine lv_bipush (pc := 232) (v := 34) hx hb dM_statement_232 (by decide) ?_
            refine lv_icmp_ne (pc := 234) (tgt := 248) hx hb dM_statement_234 (by decide) (fun hc => ?_) (fun hc => ?_)
            · replace hM := it_f hc hM
              refine lv_iload (pc := 248) hx hb dM_statement_248 (lv_at hl 1 rfl) ?_
              refine lv_bipush (pc := 250) (v := 7) hx hb dM_statement_250 (by decide) ?_
              refine lv_icmp_eq (pc := 252) (tgt := 269) hx hb dM_statement_252 (by decide) (fun hc => ?_) (fun hc => ?_)
              · replace hM := it_t hc hM
                exact bM_statement_269 N  C  _ _ _ hM _ _ hW _ (lv_sub hl [2, 1, 0] rfl)
              · replace hM := it_f hc hM
                refine lv_iload (pc := 255) hx hb dM_statement_255 (lv_at hl 1 rfl) ?_
                refine lv_bipush (pc := 257) (v := 34) hx hb dM_statement_257 (by decide) ?_
                refine lv_icmp_le (pc := 259) (tgt := 280) hx hb dM_statement_259 (by decide) (fun hc => ?_) (fun hc => ?_)
                · replace hM := it_t hc hM
                  exact bM_statement_280 N  C  _ _ _ hM _ _ hW _ (lv_sub hl [2, 1, 0] rfl)
                · replace hM := it_f hc hM
                  refine lv_iload (pc := 262) hx hb dM_statement_262 (lv_at hl 1 rfl) ?_
                  refine lv_bipush (pc := 264) (v := 38) hx hb dM_statement_264 (by decide) ?_
                  refine lv_icmp_ge (pc := 266) (tgt := 280) hx hb dM_statement_266 (by decide) (fun hc => ?_) (fun hc => ?_)
                  · replace hM := it_t hc hM
                    exact bM_statement_280 N  C  _ _ _ hM _ _ hW _ (lv_sub hl [2, 1, 0] rfl)
                  · replace hM := it_f hc hM
                    exact bM_statement_269 N  C  _ _ _ hM _ _ hW _ (lv_sub hl [2, 1, 0] rfl)
            · replace hM := it_t hc hM
              exact bM_statement_237 N  C  _ _ _ hM _ _ hW _ (lv_sub hl [2, 1, 0] rfl)
        · replace hM := it_t hc hM
          refine lv_aload_n (pc := 214) hx hb dM_statement_214 rfl (lv_at hl 2 rfl) ?_
          refine lv_iload (pc := 215) hx hb dM_statement_215 (lv_at hl 0 rfl) ?_
          obtain ⟨r3, σ4, hr3, hM⟩ := cl_some hM
          refine x_callMv (pc := 217) C hW (kM_half l D dA h  ((M_patterns x4.toNatClampNeg) ||| x5) _ hr3) gM_half_556 ⟨rfl, by decide, by decide, by decide +kernel⟩ ⟨rfl, rfl⟩ ⟨by decide, by decide⟩ ⟨by decide, by decide⟩ (As := [.int ((M_patterns x4.toNatClampNeg) ||| x5)]) (n := 1) rfl hl.1 rfl (Nat.le_of_ble_eq_true rfl) dM_statement_217 (fun H locs hW => ?_)
          refine lv_goto (pc := 220) (tgt := 331) hx hb dM_statement_220 (by decide) ?_
          exact bM_statement_331 N  C   _ hM _ _ hW _ (lv_sub hl [2] rfl)
      · replace hM := it_t hc hM
        refine lv_aload_n (pc := 198) hx hb dM_statement_198 rfl (lv_at hl 2 rfl) ?_
        refine lv_iload (pc := 199) hx hb dM_statement_199 (lv_at hl 0 rfl) ?_
        obtain ⟨r5, σ6, hr5, hM⟩ := cl_some hM
        refine x_callMv (pc := 201) C hW (kM_word l D dA h  ((M_patterns x4.toNatClampNeg) ||| x5) _ hr5) gM_word_579 ⟨rfl, by decide, by decide, by decide +kernel⟩ ⟨rfl, rfl⟩ ⟨by decide, by decide⟩ ⟨by decide, by decide⟩ (As := [.int ((M_patterns x4.toNatClampNeg) ||| x5)]) (n := 1) rfl hl.1 rfl (Nat.le_of_ble_eq_true rfl) dM_statement_201 (fun H locs hW => ?_)
        refine lv_goto (pc := 204) (tgt := 331) hx hb dM_statement_204 (by decide) ?_
        exact bM_statement_331 N  C   _ hM _ _ hW _ (lv_sub hl [2] rfl)
    · replace hM := it_f hc hM
      refine lv_aload_n (pc := 180) hx hb dM_statement_180 rfl (lv_at hl 2 rfl) ?_
      refine lv_iload (pc := 181) hx hb dM_statement_181 (lv_at hl 1 rfl) ?_
      refine lv_iload (pc := 183) hx hb dM_statement_183 (lv_at hl 0 rfl) ?_
      obtain ⟨r7, σ8, hr7, hM⟩ := cl_some hM
      refine x_callMv (pc := 185) C hW (kM_directive l D dA h N (M_shapes x4.toNatClampNeg) ((M_patterns x4.toNatClampNeg) ||| x5) _ hr7) gM_directive_663 ⟨rfl, by decide, by decide, by decide +kernel⟩ ⟨rfl, rfl⟩ ⟨by decide, by decide⟩ ⟨by decide, by decide⟩ (As := [.int (M_shapes x4.toNatClampNeg), .int ((M_patterns x4.toNatClampNeg) ||| x5)]) (n := 2) rfl hl.1 rfl (Nat.le_of_ble_eq_true rfl) dM_statement_185 (fun H locs hW => ?_)
      refine lv_goto (pc := 188) (tgt := 331) hx hb dM_statement_188 (by decide) ?_
      exact bM_statement_331 N  C   _ hM _ _ hW _ (lv_sub hl [2] rfl)
  · replace hM := it_f hc hM
    refine lv_aload_n (pc := 146) hx hb dM_statement_146 rfl (lv_at hl 0 rfl) ?_
    refine lv_iconst (pc := 147) (v := 2) hx hb dM_statement_147 (by decide) ?_
    obtain ⟨r9, σ10, hr9, hM⟩ := cl_some hM
    refine x_callMv (pc := 148) C hW (kM_blame l D dA h  (2 : Int32) _ hr9) gM_blame_429 ⟨rfl, by decide, by decide, by decide +kernel⟩ ⟨rfl, rfl⟩ ⟨by decide, by decide⟩ ⟨by decide, by decide⟩ (As := [.int (2 : Int32)]) (n := 1) rfl hl.1 rfl (Nat.le_of_ble_eq_true rfl) dM_statement_148 (fun H locs hW => ?_)
    obtain ⟨rfl, rfl⟩ := sm_p hM
    exact x_retMv (pc := 151) C rfl hW dM_statement_151
def M_statement_107 (N : Nat) (x4 : Int32) (t0 : Int32) (σ : MS) : Option (Int32 × MS) :=
  (if x4 < 0 then M_statement_141 N  x4 t0 σ else gd (inB x4 128) ((if (M_shapes x4.toNatClampNeg) = (9 : Int32) then M_statement_141 N  x4 t0 σ else gd (inB x4 128) ((if (M_shapes x4.toNatClampNeg) = (10 : Int32) then M_statement_141 N  x4 t0 σ else M_statement_141 N  (-1 : Int32) t0 σ)))))
set_option maxHeartbeats 4000000 in
set_option maxRecDepth 100000 in
theorem bM_statement_107 (N : Nat)  {r : Int32} {σ' : MS} (C : CxM p s m args meth c cM_statement 8 none D dA A) (x4 : Int32) (t0 : Int32) (σ : MS) (hM : M_statement_107 N  x4 t0 σ = some (r, σ')) (H : Heap) (locs : List Loc) (hW : WdM D dA h A s σ H locs) (ls : Array Slot) (hl : lv_has ls 8 [(0, .ref (h 0)), (4, .int x4)]) : W p l e rm_statement s m args below meth c H locs 0 0 (MQ below (QM D dA h A σ' none) args s 0 0 A) (F0 m 107 ls [.int t0]) := by
  have hx := C.1.1
  have hb := C.1.2.1
  have hown := C.1.2.2.2.2.1
  have hT := C.1.2.2.2.2.2.1
  unfold M_statement_107 at hM
  refine lv_istore (pc := 107) (lv' := [(5, .int t0), (0, .ref (h 0)), (4, .int x4)]) hx hb dM_statement_107 hl (by decide) rfl (fun ls hl => ?_)
  refine lv_iload (pc := 109) hx hb dM_statement_109 (lv_at hl 2 rfl) ?_
  refine lv_if_lt (pc := 111) (tgt := 141) hx hb dM_statement_111 (by decide) (fun hc => ?_) (fun hc => ?_)
  · replace hM := it_t hc hM
    exact bM_statement_141 N  C  _ _ _ hM _ _ hW _ (lv_sub hl [1, 2, 0] rfl)
  · replace hM := it_f hc hM
    refine lv_aload_n (pc := 114) hx hb dM_statement_114 rfl (lv_at hl 1 rfl) ?_
    refine gM (pc := 115) C hW 1 (by decide) q_1658 rfl rfl dM_statement_115 ?_
    refine lv_iload (pc := 118) hx hb dM_statement_118 (lv_at hl 2 rfl) ?_
    obtain ⟨hg1, hM⟩ := gd_some hM
    refine x_ldB (pc := 120) C hW 2 rfl hg1 dM_statement_120 ?_
    refine lv_bipush (pc := 121) (v := 9) hx hb dM_statement_121 (by decide) ?_
    refine lv_icmp_eq (pc := 123) (tgt := 141) hx hb dM_statement_123 (by decide) (fun hc => ?_) (fun hc => ?_)
    · replace hM := it_t hc hM
      exact bM_statement_141 N  C  _ _ _ hM _ _ hW _ (lv_sub hl [1, 2, 0] rfl)
    · replace hM := it_f hc hM
      refine lv_aload_n (pc := 126) hx hb dM_statement_126 rfl (lv_at hl 1 rfl) ?_
      refine gM (pc := 127) C hW 1 (by decide) q_1658 rfl rfl dM_statement_127 ?_
      refine lv_iload (pc := 130) hx hb dM_statement_130 (lv_at hl 2 rfl) ?_
      obtain ⟨hg2, hM⟩ := gd_some hM
      refine x_ldB (pc := 132) C hW 2 rfl hg2 dM_statement_132 ?_
      refine lv_bipush (pc := 133) (v := 10) hx hb dM_statement_133 (by decide) ?_
      refine lv_icmp_eq (pc := 135) (tgt := 141) hx hb dM_statement_135 (by decide) (fun hc => ?_) (fun hc => ?_)
      · replace hM := it_t hc hM
        exact bM_statement_141 N  C  _ _ _ hM _ _ hW _ (lv_sub hl [1, 2, 0] rfl)
      · replace hM := it_f hc hM
        refine lv_iconst (pc := 138) (v := -1) hx hb dM_statement_138 (by decide) ?_
        refine lv_istore (pc := 139) (lv' := [(4, .int (-1 : Int32)), (5, .int t0), (0, .ref (h 0))]) hx hb dM_statement_139 hl (by decide) rfl (fun ls hl => ?_)
        exact bM_statement_141 N  C  _ _ _ hM _ _ hW _ (lv_sub hl [2, 0, 1] rfl)
def M_statement (N : Nat) (x1 : Int32) (x2 : Int32) (σ : MS) : Option (Int32 × MS) :=
  bnd (sF σ 17 x2) (fun σ1 => bnd (sF σ1 9 x1) (fun σ2 => bnd (sF σ2 20 (0 : Int32)) (fun σ3 => bnd (sF σ3 22 (0 : Int32)) (fun σ4 => cl (M_scan N σ4) (fun r5 σ6 => cr (M_suffix  σ6) (fun r7 => cr (M_named N (σ6.1 11) (σ6.1 12) σ6) (fun r8 => (if 0 ≤ r8 then M_statement_141 N  r8 (0 : Int32) σ6 else (if r7 ≤ 0 then M_statement_141 N  r8 (0 : Int32) σ6 else cr (M_named N (σ6.1 11) ((σ6.1 12) - r7) σ6) (fun r9 => (if r7 = (5 : Int32) then M_statement_107 N  r9 (100663296 : Int32) σ6 else gd (inB ((σ6.1 12) - (1 : Int32)) 4100) ((if (σ6.2 1 ((σ6.1 12) - (1 : Int32)).toNatClampNeg) = (113 : Int32) then M_statement_107 N  r9 (67108864 : Int32) σ6 else M_statement_107 N  r9 (33554432 : Int32) σ6)))))))))))))
set_option maxHeartbeats 4000000 in
set_option maxRecDepth 100000 in
theorem bM_statement_0 (N : Nat)  {r : Int32} {σ' : MS} (C : CxM p s m args meth c cM_statement 8 none D dA A) (x1 : Int32) (x2 : Int32) (σ : MS) (hM : M_statement N  x1 x2 σ = some (r, σ')) (H : Heap) (locs : List Loc) (hW : WdM D dA h A s σ H locs) (ls : Array Slot) (hl : lv_has ls 8 [(0, .ref (h 0)), (1, .int x1), (2, .int x2)]) : W p l e rm_statement s m args below meth c H locs 0 0 (MQ below (QM D dA h A σ' none) args s 0 0 A) (F0 m 0 ls []) := by
  have hx := C.1.1
  have hb := C.1.2.1
  have hown := C.1.2.2.2.2.1
  have hT := C.1.2.2.2.2.2.1
  unfold M_statement at hM
  refine lv_aload_n (pc := 0) hx hb dM_statement_0 rfl (lv_at hl 0 rfl) ?_
  refine lv_iload_n (pc := 1) hx hb dM_statement_1 rfl (lv_at hl 2 rfl) ?_
  refine pM (pc := 2) (ty := .int) C hW 27 17 (by decide) q_1684 rfl rfl (by decide +kernel) rfl rfl (st_mode dA h _ _) dM_statement_2 (fun H locs hW => ?_)
  obtain ⟨σ1, eσ1, hM⟩ := bnd_some hM
  rw [← eσ1] at hW
  refine lv_aload_n (pc := 5) hx hb dM_statement_5 rfl (lv_at hl 0 rfl) ?_
  refine lv_iload_n (pc := 6) hx hb dM_statement_6 rfl (lv_at hl 1 rfl) ?_
  refine pM (pc := 7) (ty := .int) C hW 19 9 (by decide) q_1676 rfl rfl (by decide +kernel) rfl rfl (st_at dA h _ _) dM_statement_7 (fun H locs hW => ?_)
  obtain ⟨σ2, eσ2, hM⟩ := bnd_some hM
  rw [← eσ2] at hW
  refine lv_aload_n (pc := 10) hx hb dM_statement_10 rfl (lv_at hl 0 rfl) ?_
  refine lv_iconst (pc := 11) (v := 0) hx hb dM_statement_11 (by decide) ?_
  refine pM (pc := 12) (ty := .int) C hW 30 20 (by decide) q_1687 rfl rfl (by decide +kernel) rfl rfl (st_count dA h _ _) dM_statement_12 (fun H locs hW => ?_)
  obtain ⟨σ3, eσ3, hM⟩ := bnd_some hM
  rw [← eσ3] at hW
  refine lv_aload_n (pc := 15) hx hb dM_statement_15 rfl (lv_at hl 0 rfl) ?_
  refine lv_iconst (pc := 16) (v := 0) hx hb dM_statement_16 (by decide) ?_
  refine pM (pc := 17) (ty := .int) C hW 32 22 (by decide) q_1689 rfl rfl (by decide +kernel) rfl rfl (st_got dA h _ _) dM_statement_17 (fun H locs hW => ?_)
  obtain ⟨σ4, eσ4, hM⟩ := bnd_some hM
  rw [← eσ4] at hW
  refine lv_aload_n (pc := 20) hx hb dM_statement_20 rfl (lv_at hl 0 rfl) ?_
  obtain ⟨r5, σ6, hr5, hM⟩ := cl_some hM
  refine x_callMv (pc := 21) C hW (kM_scan l D dA h N _ hr5) gM_scan_426 ⟨rfl, by decide, by decide, by decide +kernel⟩ ⟨rfl, rfl⟩ ⟨by decide, by decide⟩ ⟨by decide, by decide⟩ (As := []) (n := 0) rfl hl.1 rfl (Nat.le_of_ble_eq_true rfl) dM_statement_21 (fun H locs hW => ?_)
  refine lv_aload_n (pc := 24) hx hb dM_statement_24 rfl (lv_at hl 0 rfl) ?_
  obtain ⟨r7, hr7, hM⟩ := cr_some hM
  refine x_callRi (pc := 25) C hW (kM_suffix l D dA h  _ hr7) gM_suffix_654 ⟨rfl, by decide, by decide, by decide +kernel⟩ ⟨rfl, rfl⟩ ⟨by decide, by decide⟩ ⟨by decide, by decide⟩ (As := []) (n := 0) rfl hl.1 rfl (Nat.le_of_ble_eq_true rfl) dM_statement_25 ?_
  refine lv_istore_n (pc := 28) (lv' := [(3, .int r7), (0, .ref (h 0)), (1, .int x1), (2, .int x2)]) hx hb dM_statement_28 rfl hl (by decide) rfl (fun ls hl => ?_)
  refine lv_aload_n (pc := 29) hx hb dM_statement_29 rfl (lv_at hl 1 rfl) ?_
  refine lv_aload_n (pc := 30) hx hb dM_statement_30 rfl (lv_at hl 1 rfl) ?_
  refine gM (pc := 31) C hW 21 (by decide) q_1678 rfl rfl dM_statement_31 ?_
  refine lv_aload_n (pc := 34) hx hb dM_statement_34 rfl (lv_at hl 1 rfl) ?_
  refine gM (pc := 35) C hW 22 (by decide) q_1679 rfl rfl dM_statement_35 ?_
  obtain ⟨r8, hr8, hM⟩ := cr_some hM
  refine x_callRi (pc := 38) C hW (kM_named l D dA h N (σ6.1 11) (σ6.1 12) _ hr8) gM_named_657 ⟨rfl, by decide, by decide, by decide +kernel⟩ ⟨rfl, rfl⟩ ⟨by decide, by decide⟩ ⟨by decide, by decide⟩ (As := [.int (σ6.1 11), .int (σ6.1 12)]) (n := 2) rfl hl.1 rfl (Nat.le_of_ble_eq_true rfl) dM_statement_38 ?_
  refine lv_istore (pc := 41) (lv' := [(4, .int r8), (3, .int r7), (0, .ref (h 0)), (1, .int x1), (2, .int x2)]) hx hb dM_statement_41 hl (by decide) rfl (fun ls hl => ?_)
  refine lv_iconst (pc := 43) (v := 0) hx hb dM_statement_43 (by decide) ?_
  refine lv_istore (pc := 44) (lv' := [(5, .int (0 : Int32)), (4, .int r8), (3, .int r7), (0, .ref (h 0)), (1, .int x1), (2, .int x2)]) hx hb dM_statement_44 hl (by decide) rfl (fun ls hl => ?_)
  refine lv_iload (pc := 46) hx hb dM_statement_46 (lv_at hl 1 rfl) ?_
  refine lv_if_ge (pc := 48) (tgt := 141) hx hb dM_statement_48 (by decide) (fun hc => ?_) (fun hc => ?_)
  · replace hM := it_t hc hM
    exact bM_statement_141 N  C  _ _ _ hM _ _ hW _ (lv_sub hl [3, 1, 0] rfl)
  · replace hM := it_f hc hM
    refine lv_iload_n (pc := 51) hx hb dM_statement_51 rfl (lv_at hl 2 rfl) ?_
    refine lv_if_le (pc := 52) (tgt := 141) hx hb dM_statement_52 (by decide) (fun hc => ?_) (fun hc => ?_)
    · replace hM := it_t hc hM
      exact bM_statement_141 N  C  _ _ _ hM _ _ hW _ (lv_sub hl [3, 1, 0] rfl)
    · replace hM := it_f hc hM
      refine lv_aload_n (pc := 55) hx hb dM_statement_55 rfl (lv_at hl 3 rfl) ?_
      refine lv_aload_n (pc := 56) hx hb dM_statement_56 rfl (lv_at hl 3 rfl) ?_
      refine gM (pc := 57) C hW 21 (by decide) q_1678 rfl rfl dM_statement_57 ?_
      refine lv_aload_n (pc := 60) hx hb dM_statement_60 rfl (lv_at hl 3 rfl) ?_
      refine gM (pc := 61) C hW 22 (by decide) q_1679 rfl rfl dM_statement_61 ?_
      refine lv_iload_n (pc := 64) hx hb dM_statement_64 rfl (lv_at hl 2 rfl) ?_
      refine lv_isub (pc := 65) hx hb dM_statement_65 ?_
      obtain ⟨r9, hr9, hM⟩ := cr_some hM
      refine x_callRi (pc := 66) C hW (kM_named l D dA h N (σ6.1 11) ((σ6.1 12) - r7) _ hr9) gM_named_657 ⟨rfl, by decide, by decide, by decide +kernel⟩ ⟨rfl, rfl⟩ ⟨by decide, by decide⟩ ⟨by decide, by decide⟩ (As := [.int (σ6.1 11), .int ((σ6.1 12) - r7)]) (n := 2) rfl hl.1 rfl (Nat.le_of_ble_eq_true rfl) dM_statement_66 ?_
      refine lv_istore (pc := 69) (lv' := [(4, .int r9), (5, .int (0 : Int32)), (3, .int r7), (0, .ref (h 0)), (1, .int x1), (2, .int x2)]) hx hb dM_statement_69 hl (by decide) rfl (fun ls hl => ?_)
      refine lv_iload_n (pc := 71) hx hb dM_statement_71 rfl (lv_at hl 2 rfl) ?_
      refine lv_iconst (pc := 72) (v := 5) hx hb dM_statement_72 (by decide) ?_
      refine lv_icmp_ne (pc := 73) (tgt := 82) hx hb dM_statement_73 (by decide) (fun hc => ?_) (fun hc => ?_)
      · replace hM := it_f hc hM
        refine lv_aload_n (pc := 82) hx hb dM_statement_82 rfl (lv_at hl 3 rfl) ?_
        refine gM (pc := 83) C hW 6 (by decide) q_1663 rfl rfl dM_statement_83 ?_
        refine lv_aload_n (pc := 86) hx hb dM_statement_86 rfl (lv_at hl 3 rfl) ?_
        refine gM (pc := 87) C hW 22 (by decide) q_1679 rfl rfl dM_statement_87 ?_
        refine lv_iconst (pc := 90) (v := 1) hx hb dM_statement_90 (by decide) ?_
        refine lv_isub (pc := 91) hx hb dM_statement_91 ?_
        obtain ⟨hg10, hM⟩ := gd_some hM
        refine x_ldC (pc := 92) C hW 5 rfl hg10 dM_statement_92 ?_
        refine lv_bipush (pc := 93) (v := 113) hx hb dM_statement_93 (by decide) ?_
        refine lv_icmp_ne (pc := 95) (tgt := 104) hx hb dM_statement_95 (by decide) (fun hc => ?_) (fun hc => ?_)
        · replace hM := it_f hc hM
          refine lv_ldcw (pc := 104) (v := 33554432) hx hb hown (hT _ q_1900) dM_statement_104 ?_
          exact bM_statement_107 N  C  _ _ _ hM _ _ hW _ (lv_sub hl [3, 0] rfl)
        · replace hM := it_t hc hM
          refine lv_ldcw (pc := 98) (v := 67108864) hx hb hown (hT _ q_1899) dM_statement_98 ?_
          refine lv_goto (pc := 101) (tgt := 107) hx hb dM_statement_101 (by decide) ?_
          exact bM_statement_107 N  C  _ _ _ hM _ _ hW _ (lv_sub hl [3, 0] rfl)
      · replace hM := it_t hc hM
        refine lv_ldcw (pc := 76) (v := 100663296) hx hb hown (hT _ q_1898) dM_statement_76 ?_
        refine lv_goto (pc := 79) (tgt := 107) hx hb dM_statement_79 (by decide) ?_
        exact bM_statement_107 N  C  _ _ _ hM _ _ hW _ (lv_sub hl [3, 0] rfl)
theorem kM_statement (l : Launch) (D : va_G) (dA : Nat → ClassId) (h : Nat → Nat) (N : Nat) (x1 : Int32) (x2 : Int32) (σ : MS) {r : Int32} {σ' : MS} (hM : M_statement N x1 x2 σ = some (r, σ')) : KM l D dA yM_statement cM_statement 8 none rm_statement h σ [.int x1, .int x2] none σ' := x_enterM rfl (Nat.le_of_ble_eq_true rfl) (fun p e s m args below meth c A C hW ls hl => bM_statement_0 N C x1 x2 σ hM s.heap [] hW ls hl)
end
