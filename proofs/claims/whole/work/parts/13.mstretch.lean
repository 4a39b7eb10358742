theorem q_1675 : (Jvm.Cond.fieldLink "LineAssemblerModel" (703 : Nat) "LineAssemblerModel" "rounds" "I") ∈ lw_gd := u_6 (List.mem_of_getElem? (i := 235) (by decide +kernel)) (by decide +kernel)
theorem q_1798 : (Jvm.Cond.methodLink "LineAssemblerModel" (715 : Nat) ({ cls := "LineAssemblerModel", name := "readAll", desc := "()V" } : Jvm.MethodName)) ∈ lw_gd := u_7 (List.mem_of_getElem? (i := 118) (by decide +kernel)) (by decide +kernel)
theorem q_1800 : (Jvm.Cond.instanceMethod ({ cls := "LineAssemblerModel", name := "readAll", desc := "()V" } : Jvm.MethodName)) ∈ lw_gd := u_7 (List.mem_of_getElem? (i := 120) (by decide +kernel)) (by decide +kernel)
theorem q_1801 : (Jvm.Cond.code ({ cls := "LineAssemblerModel", name := "readAll", desc := "()V" } : Jvm.MethodName) prog_14_method_76_code (4 : Nat) (Option.none : Option Jvm.ClassFile.FieldType)) ∈ lw_gd := u_7 (List.mem_of_getElem? (i := 121) (by decide +kernel)) (by decide +kernel)
theorem q_2094 : (Jvm.Cond.methodLink "LineAssemblerModel" (718 : Nat) ({ cls := "LineAssemblerModel", name := "stretch", desc := "()V" } : Jvm.MethodName)) ∈ lw_gd := u_8 (List.mem_of_getElem? (i := 174) (by decide +kernel)) (by decide +kernel)
theorem q_2096 : (Jvm.Cond.instanceMethod ({ cls := "LineAssemblerModel", name := "stretch", desc := "()V" } : Jvm.MethodName)) ∈ lw_gd := u_8 (List.mem_of_getElem? (i := 176) (by decide +kernel)) (by decide +kernel)
theorem q_2097 : (Jvm.Cond.code ({ cls := "LineAssemblerModel", name := "stretch", desc := "()V" } : Jvm.MethodName) prog_14_method_82_code (3 : Nat) (Option.none : Option Jvm.ClassFile.FieldType)) ∈ lw_gd := u_8 (List.mem_of_getElem? (i := 177) (by decide +kernel)) (by decide +kernel)
theorem q_2098 : (Jvm.Cond.methodLink "LineAssemblerModel" (706 : Nat) ({ cls := "LineAssemblerModel", name := "layout", desc := "()V" } : Jvm.MethodName)) ∈ lw_gd := u_8 (List.mem_of_getElem? (i := 178) (by decide +kernel)) (by decide +kernel)
theorem q_2100 : (Jvm.Cond.instanceMethod ({ cls := "LineAssemblerModel", name := "layout", desc := "()V" } : Jvm.MethodName)) ∈ lw_gd := u_8 (List.mem_of_getElem? (i := 180) (by decide +kernel)) (by decide +kernel)
theorem q_2101 : (Jvm.Cond.code ({ cls := "LineAssemblerModel", name := "layout", desc := "()V" } : Jvm.MethodName) prog_14_method_79_code (5 : Nat) (Option.none : Option Jvm.ClassFile.FieldType)) ∈ lw_gd := u_8 (List.mem_of_getElem? (i := 181) (by decide +kernel)) (by decide +kernel)
theorem q_2110 : (Jvm.Cond.methodLink "LineAssemblerModel" (709 : Nat) ({ cls := "LineAssemblerModel", name := "again", desc := "(II)V" } : Jvm.MethodName)) ∈ lw_gd := u_8 (List.mem_of_getElem? (i := 190) (by decide +kernel)) (by decide +kernel)
theorem q_2112 : (Jvm.Cond.instanceMethod ({ cls := "LineAssemblerModel", name := "again", desc := "(II)V" } : Jvm.MethodName)) ∈ lw_gd := u_8 (List.mem_of_getElem? (i := 192) (by decide +kernel)) (by decide +kernel)
theorem q_2113 : (Jvm.Cond.code ({ cls := "LineAssemblerModel", name := "again", desc := "(II)V" } : Jvm.MethodName) prog_14_method_81_code (3 : Nat) (Option.none : Option Jvm.ClassFile.FieldType)) ∈ lw_gd := u_8 (List.mem_of_getElem? (i := 193) (by decide +kernel)) (by decide +kernel)
theorem q_2118 : (Jvm.Cond.methodLink "LineAssemblerModel" (721 : Nat) ({ cls := "LineAssemblerModel", name := "all", desc := "()I" } : Jvm.MethodName)) ∈ lw_gd := u_8 (List.mem_of_getElem? (i := 198) (by decide +kernel)) (by decide +kernel)
theorem q_2120 : (Jvm.Cond.instanceMethod ({ cls := "LineAssemblerModel", name := "all", desc := "()I" } : Jvm.MethodName)) ∈ lw_gd := u_8 (List.mem_of_getElem? (i := 200) (by decide +kernel)) (by decide +kernel)
theorem q_2121 : (Jvm.Cond.code ({ cls := "LineAssemblerModel", name := "all", desc := "()I" } : Jvm.MethodName) prog_14_method_84_code (1 : Nat) (Option.some Jvm.ClassFile.FieldType.int)) ∈ lw_gd := u_8 (List.mem_of_getElem? (i := 201) (by decide +kernel)) (by decide +kernel)
theorem q_2122 : (Jvm.Cond.methodLink "LineAssemblerModel" (724 : Nat) ({ cls := "LineAssemblerModel", name := "lineOf", desc := "(I)I" } : Jvm.MethodName)) ∈ lw_gd := u_8 (List.mem_of_getElem? (i := 202) (by decide +kernel)) (by decide +kernel)
theorem q_2124 : (Jvm.Cond.instanceMethod ({ cls := "LineAssemblerModel", name := "lineOf", desc := "(I)I" } : Jvm.MethodName)) ∈ lw_gd := u_8 (List.mem_of_getElem? (i := 204) (by decide +kernel)) (by decide +kernel)
theorem q_2125 : (Jvm.Cond.code ({ cls := "LineAssemblerModel", name := "lineOf", desc := "(I)I" } : Jvm.MethodName) prog_14_method_83_code (4 : Nat) (Option.some Jvm.ClassFile.FieldType.int)) ∈ lw_gd := u_8 (List.mem_of_getElem? (i := 205) (by decide +kernel)) (by decide +kernel)
theorem q_2130 : (Jvm.Cond.methodLink "LineAssemblerModel" (727 : Nat) ({ cls := "LineAssemblerModel", name := "refuse", desc := "(I)I" } : Jvm.MethodName)) ∈ lw_gd := u_8 (List.mem_of_getElem? (i := 210) (by decide +kernel)) (by decide +kernel)
theorem q_2132 : (Jvm.Cond.instanceMethod ({ cls := "LineAssemblerModel", name := "refuse", desc := "(I)I" } : Jvm.MethodName)) ∈ lw_gd := u_8 (List.mem_of_getElem? (i := 212) (by decide +kernel)) (by decide +kernel)
theorem q_2133 : (Jvm.Cond.code ({ cls := "LineAssemblerModel", name := "refuse", desc := "(I)I" } : Jvm.MethodName) prog_14_method_86_code (2 : Nat) (Option.some Jvm.ClassFile.FieldType.int)) ∈ lw_gd := u_8 (List.mem_of_getElem? (i := 213) (by decide +kernel)) (by decide +kernel)
theorem q_2134 : (Jvm.Cond.methodLink "LineAssemblerModel" (730 : Nat) ({ cls := "LineAssemblerModel", name := "labelsOf", desc := "(Z)I" } : Jvm.MethodName)) ∈ lw_gd := u_8 (List.mem_of_getElem? (i := 214) (by decide +kernel)) (by decide +kernel)
theorem q_2136 : (Jvm.Cond.instanceMethod ({ cls := "LineAssemblerModel", name := "labelsOf", desc := "(Z)I" } : Jvm.MethodName)) ∈ lw_gd := u_8 (List.mem_of_getElem? (i := 216) (by decide +kernel)) (by decide +kernel)
theorem q_2137 : (Jvm.Cond.code ({ cls := "LineAssemblerModel", name := "labelsOf", desc := "(Z)I" } : Jvm.MethodName) prog_14_method_87_code (4 : Nat) (Option.some Jvm.ClassFile.FieldType.int)) ∈ lw_gd := u_8 (List.mem_of_getElem? (i := 217) (by decide +kernel)) (by decide +kernel)
theorem q_2142 : (Jvm.Cond.methodLink "LineAssemblerModel" (734 : Nat) ({ cls := "LineAssemblerModel", name := "holder", desc := "(I)I" } : Jvm.MethodName)) ∈ lw_gd := u_8 (List.mem_of_getElem? (i := 222) (by decide +kernel)) (by decide +kernel)
theorem q_2144 : (Jvm.Cond.instanceMethod ({ cls := "LineAssemblerModel", name := "holder", desc := "(I)I" } : Jvm.MethodName)) ∈ lw_gd := u_8 (List.mem_of_getElem? (i := 224) (by decide +kernel)) (by decide +kernel)
theorem q_2145 : (Jvm.Cond.code ({ cls := "LineAssemblerModel", name := "holder", desc := "(I)I" } : Jvm.MethodName) prog_14_method_89_code (4 : Nat) (Option.some Jvm.ClassFile.FieldType.int)) ∈ lw_gd := u_8 (List.mem_of_getElem? (i := 225) (by decide +kernel)) (by decide +kernel)
theorem q_2150 : (Jvm.Cond.methodLink "LineAssemblerModel" (737 : Nat) ({ cls := "LineAssemblerModel", name := "labelAt", desc := "(I)I" } : Jvm.MethodName)) ∈ lw_gd := u_8 (List.mem_of_getElem? (i := 230) (by decide +kernel)) (by decide +kernel)
theorem q_2152 : (Jvm.Cond.instanceMethod ({ cls := "LineAssemblerModel", name := "labelAt", desc := "(I)I" } : Jvm.MethodName)) ∈ lw_gd := u_8 (List.mem_of_getElem? (i := 232) (by decide +kernel)) (by decide +kernel)
theorem q_2153 : (Jvm.Cond.code ({ cls := "LineAssemblerModel", name := "labelAt", desc := "(I)I" } : Jvm.MethodName) prog_14_method_91_code (4 : Nat) (Option.some Jvm.ClassFile.FieldType.int)) ∈ lw_gd := u_8 (List.mem_of_getElem? (i := 233) (by decide +kernel)) (by decide +kernel)
theorem qs_51 : Cond.selects "LineAssemblerModel" (⟨"LineAssemblerModel", "readAll", "()V"⟩ : MethodName) ⟨"LineAssemblerModel", "readAll", "()V"⟩ ∈ lw_gd := lw_gds (List.mem_of_getElem? (i := 51) (by decide +kernel)) (by decide +kernel)
theorem qs_112 : Cond.selects "LineAssemblerModel" (⟨"LineAssemblerModel", "stretch", "()V"⟩ : MethodName) ⟨"LineAssemblerModel", "stretch", "()V"⟩ ∈ lw_gd := lw_gds (List.mem_of_getElem? (i := 112) (by decide +kernel)) (by decide +kernel)
theorem qs_113 : Cond.selects "LineAssemblerModel" (⟨"LineAssemblerModel", "layout", "()V"⟩ : MethodName) ⟨"LineAssemblerModel", "layout", "()V"⟩ ∈ lw_gd := lw_gds (List.mem_of_getElem? (i := 113) (by decide +kernel)) (by decide +kernel)
theorem qs_116 : Cond.selects "LineAssemblerModel" (⟨"LineAssemblerModel", "again", "(II)V"⟩ : MethodName) ⟨"LineAssemblerModel", "again", "(II)V"⟩ ∈ lw_gd := lw_gds (List.mem_of_getElem? (i := 116) (by decide +kernel)) (by decide +kernel)
theorem qs_118 : Cond.selects "LineAssemblerModel" (⟨"LineAssemblerModel", "all", "()I"⟩ : MethodName) ⟨"LineAssemblerModel", "all", "()I"⟩ ∈ lw_gd := lw_gds (List.mem_of_getElem? (i := 118) (by decide +kernel)) (by decide +kernel)
theorem qs_119 : Cond.selects "LineAssemblerModel" (⟨"LineAssemblerModel", "lineOf", "(I)I"⟩ : MethodName) ⟨"LineAssemblerModel", "lineOf", "(I)I"⟩ ∈ lw_gd := lw_gds (List.mem_of_getElem? (i := 119) (by decide +kernel)) (by decide +kernel)
theorem qs_120 : Cond.selects "LineAssemblerModel" (⟨"LineAssemblerModel", "refuse", "(I)I"⟩ : MethodName) ⟨"LineAssemblerModel", "refuse", "(I)I"⟩ ∈ lw_gd := lw_gds (List.mem_of_getElem? (i := 120) (by decide +kernel)) (by decide +kernel)
theorem qs_121 : Cond.selects "LineAssemblerModel" (⟨"LineAssemblerModel", "labelsOf", "(Z)I"⟩ : MethodName) ⟨"LineAssemblerModel", "labelsOf", "(Z)I"⟩ ∈ lw_gd := lw_gds (List.mem_of_getElem? (i := 121) (by decide +kernel)) (by decide +kernel)
theorem qs_122 : Cond.selects "LineAssemblerModel" (⟨"LineAssemblerModel", "holder", "(I)I"⟩ : MethodName) ⟨"LineAssemblerModel", "holder", "(I)I"⟩ ∈ lw_gd := lw_gds (List.mem_of_getElem? (i := 122) (by decide +kernel)) (by decide +kernel)
theorem qs_123 : Cond.selects "LineAssemblerModel" (⟨"LineAssemblerModel", "labelAt", "(I)I"⟩ : MethodName) ⟨"LineAssemblerModel", "labelAt", "(I)I"⟩ ∈ lw_gd := lw_gds (List.mem_of_getElem? (i := 123) (by decide +kernel)) (by decide +kernel)
abbrev cM_stretch : ByteArray := prog_14_method_82_code
def yM_stretch : MethodName := ⟨RM, "stretch", "()V"⟩
abbrev rm_stretch : Room := { frames := 13, cells := 0, slots := 0, locals := 309 }
theorem dM_stretch_0 : decode cM_stretch 0 = .ok (.aload_n 0, 1) := by decide +kernel
theorem dM_stretch_1 : decode cM_stretch 1 = .ok (.iconst 0, 1) := by decide +kernel
theorem dM_stretch_2 : decode cM_stretch 2 = .ok (.putfield 703, 3) := by decide +kernel
theorem dM_stretch_5 : decode cM_stretch 5 = .ok (.iconst 1, 1) := by decide +kernel
theorem dM_stretch_6 : decode cM_stretch 6 = .ok (.istore_n 1, 1) := by decide +kernel
theorem dM_stretch_7 : decode cM_stretch 7 = .ok (.iload_n 1, 1) := by decide +kernel
theorem dM_stretch_8 : decode cM_stretch 8 = .ok (.ifCond .eq (111), 3) := by decide +kernel
theorem dM_stretch_11 : decode cM_stretch 11 = .ok (.iconst 0, 1) := by decide +kernel
theorem dM_stretch_12 : decode cM_stretch 12 = .ok (.istore_n 1, 1) := by decide +kernel
theorem dM_stretch_13 : decode cM_stretch 13 = .ok (.aload_n 0, 1) := by decide +kernel
theorem dM_stretch_14 : decode cM_stretch 14 = .ok (.invokevirtual 706, 3) := by decide +kernel
theorem dM_stretch_17 : decode cM_stretch 17 = .ok (.iconst 0, 1) := by decide +kernel
theorem dM_stretch_18 : decode cM_stretch 18 = .ok (.istore_n 2, 1) := by decide +kernel
theorem dM_stretch_19 : decode cM_stretch 19 = .ok (.iload_n 2, 1) := by decide +kernel
theorem dM_stretch_20 : decode cM_stretch 20 = .ok (.aload_n 0, 1) := by decide +kernel
theorem dM_stretch_21 : decode cM_stretch 21 = .ok (.getfield 682, 3) := by decide +kernel
theorem dM_stretch_24 : decode cM_stretch 24 = .ok (.if_icmp .ge (71), 3) := by decide +kernel
theorem dM_stretch_27 : decode cM_stretch 27 = .ok (.aload_n 0, 1) := by decide +kernel
theorem dM_stretch_28 : decode cM_stretch 28 = .ok (.getfield 330, 3) := by decide +kernel
theorem dM_stretch_31 : decode cM_stretch 31 = .ok (.iload_n 2, 1) := by decide +kernel
theorem dM_stretch_32 : decode cM_stretch 32 = .ok (.iaload, 1) := by decide +kernel
theorem dM_stretch_33 : decode cM_stretch 33 = .ok (.bipush 16, 2) := by decide +kernel
theorem dM_stretch_35 : decode cM_stretch 35 = .ok (.ishr, 1) := by decide +kernel
theorem dM_stretch_36 : decode cM_stretch 36 = .ok (.ifCond .ne (6), 3) := by decide +kernel
theorem dM_stretch_39 : decode cM_stretch 39 = .ok (.goto (50), 3) := by decide +kernel
theorem dM_stretch_42 : decode cM_stretch 42 = .ok (.aload_n 0, 1) := by decide +kernel
theorem dM_stretch_43 : decode cM_stretch 43 = .ok (.iconst 0, 1) := by decide +kernel
theorem dM_stretch_44 : decode cM_stretch 44 = .ok (.putfield 567, 3) := by decide +kernel
theorem dM_stretch_47 : decode cM_stretch 47 = .ok (.aload_n 0, 1) := by decide +kernel
theorem dM_stretch_48 : decode cM_stretch 48 = .ok (.iload_n 2, 1) := by decide +kernel
theorem dM_stretch_49 : decode cM_stretch 49 = .ok (.iconst 1, 1) := by decide +kernel
theorem dM_stretch_50 : decode cM_stretch 50 = .ok (.invokevirtual 709, 3) := by decide +kernel
theorem dM_stretch_53 : decode cM_stretch 53 = .ok (.aload_n 0, 1) := by decide +kernel
theorem dM_stretch_54 : decode cM_stretch 54 = .ok (.getfield 567, 3) := by decide +kernel
theorem dM_stretch_57 : decode cM_stretch 57 = .ok (.ifCond .eq (15), 3) := by decide +kernel
theorem dM_stretch_60 : decode cM_stretch 60 = .ok (.aload_n 0, 1) := by decide +kernel
theorem dM_stretch_61 : decode cM_stretch 61 = .ok (.getfield 330, 3) := by decide +kernel
theorem dM_stretch_64 : decode cM_stretch 64 = .ok (.iload_n 2, 1) := by decide +kernel
theorem dM_stretch_65 : decode cM_stretch 65 = .ok (.dup2, 1) := by decide +kernel
theorem dM_stretch_66 : decode cM_stretch 66 = .ok (.iaload, 1) := by decide +kernel
theorem dM_stretch_67 : decode cM_stretch 67 = .ok (.sipush 8192, 3) := by decide +kernel
theorem dM_stretch_70 : decode cM_stretch 70 = .ok (.iadd, 1) := by decide +kernel
theorem dM_stretch_71 : decode cM_stretch 71 = .ok (.iastore, 1) := by decide +kernel
theorem dM_stretch_72 : decode cM_stretch 72 = .ok (.iload_n 1, 1) := by decide +kernel
theorem dM_stretch_73 : decode cM_stretch 73 = .ok (.ifCond .ne (10), 3) := by decide +kernel
theorem dM_stretch_76 : decode cM_stretch 76 = .ok (.aload_n 0, 1) := by decide +kernel
theorem dM_stretch_77 : decode cM_stretch 77 = .ok (.getfield 567, 3) := by decide +kernel
theorem dM_stretch_80 : decode cM_stretch 80 = .ok (.ifCond .eq (7), 3) := by decide +kernel
theorem dM_stretch_83 : decode cM_stretch 83 = .ok (.iconst 1, 1) := by decide +kernel
theorem dM_stretch_84 : decode cM_stretch 84 = .ok (.goto (4), 3) := by decide +kernel
theorem dM_stretch_87 : decode cM_stretch 87 = .ok (.iconst 0, 1) := by decide +kernel
theorem dM_stretch_88 : decode cM_stretch 88 = .ok (.istore_n 1, 1) := by decide +kernel
theorem dM_stretch_89 : decode cM_stretch 89 = .ok (.iinc 2 (1), 3) := by decide +kernel
theorem dM_stretch_92 : decode cM_stretch 92 = .ok (.goto (-73), 3) := by decide +kernel
theorem dM_stretch_95 : decode cM_stretch 95 = .ok (.aload_n 0, 1) := by decide +kernel
theorem dM_stretch_96 : decode cM_stretch 96 = .ok (.iload_n 1, 1) := by decide +kernel
theorem dM_stretch_97 : decode cM_stretch 97 = .ok (.ifCond .eq (12), 3) := by decide +kernel
theorem dM_stretch_100 : decode cM_stretch 100 = .ok (.aload_n 0, 1) := by decide +kernel
theorem dM_stretch_101 : decode cM_stretch 101 = .ok (.getfield 703, 3) := by decide +kernel
theorem dM_stretch_104 : decode cM_stretch 104 = .ok (.iconst 1, 1) := by decide +kernel
theorem dM_stretch_105 : decode cM_stretch 105 = .ok (.iadd, 1) := by decide +kernel
theorem dM_stretch_106 : decode cM_stretch 106 = .ok (.goto (7), 3) := by decide +kernel
theorem dM_stretch_109 : decode cM_stretch 109 = .ok (.aload_n 0, 1) := by decide +kernel
theorem dM_stretch_110 : decode cM_stretch 110 = .ok (.getfield 703, 3) := by decide +kernel
theorem dM_stretch_113 : decode cM_stretch 113 = .ok (.putfield 703, 3) := by decide +kernel
theorem dM_stretch_116 : decode cM_stretch 116 = .ok (.goto (-109), 3) := by decide +kernel
theorem dM_stretch_119 : decode cM_stretch 119 = .ok (.return_, 1) := by decide +kernel
abbrev cM_assemble : ByteArray := prog_14_method_85_code
def yM_assemble : MethodName := ⟨RM, "assemble", "()I"⟩
abbrev rm_assemble : Room := { frames := 14, cells := 0, slots := 0, locals := 331 }
theorem dM_assemble_0 : decode cM_assemble 0 = .ok (.aload_n 0, 1) := by decide +kernel
theorem dM_assemble_1 : decode cM_assemble 1 = .ok (.iconst 0, 1) := by decide +kernel
theorem dM_assemble_2 : decode cM_assemble 2 = .ok (.putfield 348, 3) := by decide +kernel
theorem dM_assemble_5 : decode cM_assemble 5 = .ok (.aload_n 0, 1) := by decide +kernel
theorem dM_assemble_6 : decode cM_assemble 6 = .ok (.aload_n 0, 1) := by decide +kernel
theorem dM_assemble_7 : decode cM_assemble 7 = .ok (.getfield 352, 3) := by decide +kernel
theorem dM_assemble_10 : decode cM_assemble 10 = .ok (.putfield 358, 3) := by decide +kernel
theorem dM_assemble_13 : decode cM_assemble 13 = .ok (.iconst 0, 1) := by decide +kernel
theorem dM_assemble_14 : decode cM_assemble 14 = .ok (.istore_n 1, 1) := by decide +kernel
theorem dM_assemble_15 : decode cM_assemble 15 = .ok (.iload_n 1, 1) := by decide +kernel
theorem dM_assemble_16 : decode cM_assemble 16 = .ok (.aload_n 0, 1) := by decide +kernel
theorem dM_assemble_17 : decode cM_assemble 17 = .ok (.getfield 358, 3) := by decide +kernel
theorem dM_assemble_20 : decode cM_assemble 20 = .ok (.if_icmp .ge (21), 3) := by decide +kernel
theorem dM_assemble_23 : decode cM_assemble 23 = .ok (.aload_n 0, 1) := by decide +kernel
theorem dM_assemble_24 : decode cM_assemble 24 = .ok (.getfield 327, 3) := by decide +kernel
theorem dM_assemble_27 : decode cM_assemble 27 = .ok (.iload_n 1, 1) := by decide +kernel
theorem dM_assemble_28 : decode cM_assemble 28 = .ok (.aload_n 0, 1) := by decide +kernel
theorem dM_assemble_29 : decode cM_assemble 29 = .ok (.getfield 323, 3) := by decide +kernel
theorem dM_assemble_32 : decode cM_assemble 32 = .ok (.iload_n 1, 1) := by decide +kernel
theorem dM_assemble_33 : decode cM_assemble 33 = .ok (.caload, 1) := by decide +kernel
theorem dM_assemble_34 : decode cM_assemble 34 = .ok (.castore, 1) := by decide +kernel
theorem dM_assemble_35 : decode cM_assemble 35 = .ok (.iinc 1 (1), 3) := by decide +kernel
theorem dM_assemble_38 : decode cM_assemble 38 = .ok (.goto (-23), 3) := by decide +kernel
theorem dM_assemble_41 : decode cM_assemble 41 = .ok (.aload_n 0, 1) := by decide +kernel
theorem dM_assemble_42 : decode cM_assemble 42 = .ok (.iconst 0, 1) := by decide +kernel
theorem dM_assemble_43 : decode cM_assemble 43 = .ok (.putfield 420, 3) := by decide +kernel
theorem dM_assemble_46 : decode cM_assemble 46 = .ok (.aload_n 0, 1) := by decide +kernel
theorem dM_assemble_47 : decode cM_assemble 47 = .ok (.iconst 0, 1) := by decide +kernel
theorem dM_assemble_48 : decode cM_assemble 48 = .ok (.putfield 712, 3) := by decide +kernel
theorem dM_assemble_51 : decode cM_assemble 51 = .ok (.aload_n 0, 1) := by decide +kernel
theorem dM_assemble_52 : decode cM_assemble 52 = .ok (.invokevirtual 715, 3) := by decide +kernel
theorem dM_assemble_55 : decode cM_assemble 55 = .ok (.aload_n 0, 1) := by decide +kernel
theorem dM_assemble_56 : decode cM_assemble 56 = .ok (.getfield 420, 3) := by decide +kernel
theorem dM_assemble_59 : decode cM_assemble 59 = .ok (.ifCond .le (8), 3) := by decide +kernel
theorem dM_assemble_62 : decode cM_assemble 62 = .ok (.aload_n 0, 1) := by decide +kernel
theorem dM_assemble_63 : decode cM_assemble 63 = .ok (.getfield 420, 3) := by decide +kernel
theorem dM_assemble_66 : decode cM_assemble 66 = .ok (.ireturn, 1) := by decide +kernel
theorem dM_assemble_67 : decode cM_assemble 67 = .ok (.aload_n 0, 1) := by decide +kernel
theorem dM_assemble_68 : decode cM_assemble 68 = .ok (.invokevirtual 718, 3) := by decide +kernel
theorem dM_assemble_71 : decode cM_assemble 71 = .ok (.aload_n 0, 1) := by decide +kernel
theorem dM_assemble_72 : decode cM_assemble 72 = .ok (.iconst 1, 1) := by decide +kernel
theorem dM_assemble_73 : decode cM_assemble 73 = .ok (.putfield 712, 3) := by decide +kernel
theorem dM_assemble_76 : decode cM_assemble 76 = .ok (.aload_n 0, 1) := by decide +kernel
theorem dM_assemble_77 : decode cM_assemble 77 = .ok (.invokevirtual 721, 3) := by decide +kernel
theorem dM_assemble_80 : decode cM_assemble 80 = .ok (.ldc_w 649, 3) := by decide +kernel
theorem dM_assemble_83 : decode cM_assemble 83 = .ok (.if_icmp .le (9), 3) := by decide +kernel
theorem dM_assemble_86 : decode cM_assemble 86 = .ok (.aload_n 0, 1) := by decide +kernel
theorem dM_assemble_87 : decode cM_assemble 87 = .ok (.bipush 7, 2) := by decide +kernel
theorem dM_assemble_89 : decode cM_assemble 89 = .ok (.putfield 420, 3) := by decide +kernel
theorem dM_assemble_92 : decode cM_assemble 92 = .ok (.iconst 0, 1) := by decide +kernel
theorem dM_assemble_93 : decode cM_assemble 93 = .ok (.istore_n 1, 1) := by decide +kernel
theorem dM_assemble_94 : decode cM_assemble 94 = .ok (.iload_n 1, 1) := by decide +kernel
theorem dM_assemble_95 : decode cM_assemble 95 = .ok (.aload_n 0, 1) := by decide +kernel
theorem dM_assemble_96 : decode cM_assemble 96 = .ok (.getfield 682, 3) := by decide +kernel
theorem dM_assemble_99 : decode cM_assemble 99 = .ok (.if_icmp .ge (40), 3) := by decide +kernel
theorem dM_assemble_102 : decode cM_assemble 102 = .ok (.aload_n 0, 1) := by decide +kernel
theorem dM_assemble_103 : decode cM_assemble 103 = .ok (.getfield 420, 3) := by decide +kernel
theorem dM_assemble_106 : decode cM_assemble 106 = .ok (.ifCond .ne (33), 3) := by decide +kernel
theorem dM_assemble_109 : decode cM_assemble 109 = .ok (.aload_n 0, 1) := by decide +kernel
theorem dM_assemble_110 : decode cM_assemble 110 = .ok (.aload_n 0, 1) := by decide +kernel
theorem dM_assemble_111 : decode cM_assemble 111 = .ok (.aload_n 0, 1) := by decide +kernel
theorem dM_assemble_112 : decode cM_assemble 112 = .ok (.getfield 330, 3) := by decide +kernel
theorem dM_assemble_115 : decode cM_assemble 115 = .ok (.iload_n 1, 1) := by decide +kernel
theorem dM_assemble_116 : decode cM_assemble 116 = .ok (.iaload, 1) := by decide +kernel
theorem dM_assemble_117 : decode cM_assemble 117 = .ok (.sipush 8191, 3) := by decide +kernel
theorem dM_assemble_120 : decode cM_assemble 120 = .ok (.iand, 1) := by decide +kernel
theorem dM_assemble_121 : decode cM_assemble 121 = .ok (.invokevirtual 724, 3) := by decide +kernel
theorem dM_assemble_124 : decode cM_assemble 124 = .ok (.putfield 423, 3) := by decide +kernel
theorem dM_assemble_127 : decode cM_assemble 127 = .ok (.aload_n 0, 1) := by decide +kernel
theorem dM_assemble_128 : decode cM_assemble 128 = .ok (.iload_n 1, 1) := by decide +kernel
theorem dM_assemble_129 : decode cM_assemble 129 = .ok (.iconst 2, 1) := by decide +kernel
theorem dM_assemble_130 : decode cM_assemble 130 = .ok (.invokevirtual 709, 3) := by decide +kernel
theorem dM_assemble_133 : decode cM_assemble 133 = .ok (.iinc 1 (1), 3) := by decide +kernel
theorem dM_assemble_136 : decode cM_assemble 136 = .ok (.goto (-42), 3) := by decide +kernel
theorem dM_assemble_139 : decode cM_assemble 139 = .ok (.aload_n 0, 1) := by decide +kernel
theorem dM_assemble_140 : decode cM_assemble 140 = .ok (.aload_n 0, 1) := by decide +kernel
theorem dM_assemble_141 : decode cM_assemble 141 = .ok (.getfield 420, 3) := by decide +kernel
theorem dM_assemble_144 : decode cM_assemble 144 = .ok (.ifCond .ne (7), 3) := by decide +kernel
theorem dM_assemble_147 : decode cM_assemble 147 = .ok (.iconst 1, 1) := by decide +kernel
theorem dM_assemble_148 : decode cM_assemble 148 = .ok (.goto (4), 3) := by decide +kernel
theorem dM_assemble_151 : decode cM_assemble 151 = .ok (.iconst 0, 1) := by decide +kernel
theorem dM_assemble_152 : decode cM_assemble 152 = .ok (.putfield 712, 3) := by decide +kernel
theorem dM_assemble_155 : decode cM_assemble 155 = .ok (.aload_n 0, 1) := by decide +kernel
theorem dM_assemble_156 : decode cM_assemble 156 = .ok (.getfield 420, 3) := by decide +kernel
theorem dM_assemble_159 : decode cM_assemble 159 = .ok (.ireturn, 1) := by decide +kernel
abbrev cM_labelsOf : ByteArray := prog_14_method_87_code
def yM_labelsOf : MethodName := ⟨RM, "labelsOf", "(Z)I"⟩
abbrev rm_labelsOf : Room := { frames := 0, cells := 0, slots := 0, locals := 0 }
theorem dM_labelsOf_0 : decode cM_labelsOf 0 = .ok (.iconst 0, 1) := by decide +kernel
theorem dM_labelsOf_1 : decode cM_labelsOf 1 = .ok (.istore_n 2, 1) := by decide +kernel
theorem dM_labelsOf_2 : decode cM_labelsOf 2 = .ok (.iconst 0, 1) := by decide +kernel
theorem dM_labelsOf_3 : decode cM_labelsOf 3 = .ok (.istore_n 3, 1) := by decide +kernel
theorem dM_labelsOf_4 : decode cM_labelsOf 4 = .ok (.iload_n 3, 1) := by decide +kernel
theorem dM_labelsOf_5 : decode cM_labelsOf 5 = .ok (.aload_n 0, 1) := by decide +kernel
theorem dM_labelsOf_6 : decode cM_labelsOf 6 = .ok (.getfield 449, 3) := by decide +kernel
theorem dM_labelsOf_9 : decode cM_labelsOf 9 = .ok (.if_icmp .ge (57), 3) := by decide +kernel
theorem dM_labelsOf_12 : decode cM_labelsOf 12 = .ok (.iload_n 1, 1) := by decide +kernel
theorem dM_labelsOf_13 : decode cM_labelsOf 13 = .ok (.ifCond .eq (26), 3) := by decide +kernel
theorem dM_labelsOf_16 : decode cM_labelsOf 16 = .ok (.aload_n 0, 1) := by decide +kernel
theorem dM_labelsOf_17 : decode cM_labelsOf 17 = .ok (.getfield 339, 3) := by decide +kernel
theorem dM_labelsOf_20 : decode cM_labelsOf 20 = .ok (.iload_n 3, 1) := by decide +kernel
theorem dM_labelsOf_21 : decode cM_labelsOf 21 = .ok (.iaload, 1) := by decide +kernel
theorem dM_labelsOf_22 : decode cM_labelsOf 22 = .ok (.bipush 13, 2) := by decide +kernel
theorem dM_labelsOf_24 : decode cM_labelsOf 24 = .ok (.ishr, 1) := by decide +kernel
theorem dM_labelsOf_25 : decode cM_labelsOf 25 = .ok (.iconst 2, 1) := by decide +kernel
theorem dM_labelsOf_26 : decode cM_labelsOf 26 = .ok (.if_icmp .ne (9), 3) := by decide +kernel
theorem dM_labelsOf_29 : decode cM_labelsOf 29 = .ok (.iload_n 2, 1) := by decide +kernel
theorem dM_labelsOf_30 : decode cM_labelsOf 30 = .ok (.iconst 1, 1) := by decide +kernel
theorem dM_labelsOf_31 : decode cM_labelsOf 31 = .ok (.iadd, 1) := by decide +kernel
theorem dM_labelsOf_32 : decode cM_labelsOf 32 = .ok (.goto (27), 3) := by decide +kernel
theorem dM_labelsOf_35 : decode cM_labelsOf 35 = .ok (.iload_n 2, 1) := by decide +kernel
theorem dM_labelsOf_36 : decode cM_labelsOf 36 = .ok (.goto (23), 3) := by decide +kernel
theorem dM_labelsOf_39 : decode cM_labelsOf 39 = .ok (.aload_n 0, 1) := by decide +kernel
theorem dM_labelsOf_40 : decode cM_labelsOf 40 = .ok (.getfield 339, 3) := by decide +kernel
theorem dM_labelsOf_43 : decode cM_labelsOf 43 = .ok (.iload_n 3, 1) := by decide +kernel
theorem dM_labelsOf_44 : decode cM_labelsOf 44 = .ok (.iaload, 1) := by decide +kernel
theorem dM_labelsOf_45 : decode cM_labelsOf 45 = .ok (.bipush 13, 2) := by decide +kernel
theorem dM_labelsOf_47 : decode cM_labelsOf 47 = .ok (.ishr, 1) := by decide +kernel
theorem dM_labelsOf_48 : decode cM_labelsOf 48 = .ok (.iconst 2, 1) := by decide +kernel
theorem dM_labelsOf_49 : decode cM_labelsOf 49 = .ok (.if_icmp .ge (9), 3) := by decide +kernel
theorem dM_labelsOf_52 : decode cM_labelsOf 52 = .ok (.iload_n 2, 1) := by decide +kernel
theorem dM_labelsOf_53 : decode cM_labelsOf 53 = .ok (.iconst 1, 1) := by decide +kernel
theorem dM_labelsOf_54 : decode cM_labelsOf 54 = .ok (.iadd, 1) := by decide +kernel
theorem dM_labelsOf_55 : decode cM_labelsOf 55 = .ok (.goto (4), 3) := by decide +kernel
theorem dM_labelsOf_58 : decode cM_labelsOf 58 = .ok (.iload_n 2, 1) := by decide +kernel
theorem dM_labelsOf_59 : decode cM_labelsOf 59 = .ok (.istore_n 2, 1) := by decide +kernel
theorem dM_labelsOf_60 : decode cM_labelsOf 60 = .ok (.iinc 3 (1), 3) := by decide +kernel
theorem dM_labelsOf_63 : decode cM_labelsOf 63 = .ok (.goto (-59), 3) := by decide +kernel
theorem dM_labelsOf_66 : decode cM_labelsOf 66 = .ok (.iload_n 2, 1) := by decide +kernel
theorem dM_labelsOf_67 : decode cM_labelsOf 67 = .ok (.ireturn, 1) := by decide +kernel
abbrev cM_refuse : ByteArray := prog_14_method_86_code
def yM_refuse : MethodName := ⟨RM, "refuse", "(I)I"⟩
abbrev rm_refuse : Room := { frames := 0, cells := 0, slots := 0, locals := 0 }
theorem dM_refuse_0 : decode cM_refuse 0 = .ok (.aload_n 0, 1) := by decide +kernel
theorem dM_refuse_1 : decode cM_refuse 1 = .ok (.iload_n 1, 1) := by decide +kernel
theorem dM_refuse_2 : decode cM_refuse 2 = .ok (.putfield 348, 3) := by decide +kernel
theorem dM_refuse_5 : decode cM_refuse 5 = .ok (.iconst 0, 1) := by decide +kernel
theorem dM_refuse_6 : decode cM_refuse 6 = .ok (.ireturn, 1) := by decide +kernel
abbrev cM_size : ByteArray := prog_14_method_88_code
def yM_size : MethodName := ⟨RM, "size", "(I)I"⟩
abbrev rm_size : Room := { frames := 2, cells := 0, slots := 0, locals := 40 }
theorem dM_size_0 : decode cM_size 0 = .ok (.aload_n 0, 1) := by decide +kernel
theorem dM_size_1 : decode cM_size 1 = .ok (.getfield 712, 3) := by decide +kernel
theorem dM_size_4 : decode cM_size 4 = .ok (.ifCond .ne (9), 3) := by decide +kernel
theorem dM_size_7 : decode cM_size 7 = .ok (.aload_n 0, 1) := by decide +kernel
theorem dM_size_8 : decode cM_size 8 = .ok (.iconst 1, 1) := by decide +kernel
theorem dM_size_9 : decode cM_size 9 = .ok (.invokevirtual 727, 3) := by decide +kernel
theorem dM_size_12 : decode cM_size 12 = .ok (.ireturn, 1) := by decide +kernel
theorem dM_size_13 : decode cM_size 13 = .ok (.iload_n 1, 1) := by decide +kernel
theorem dM_size_14 : decode cM_size 14 = .ok (.ifCond .lt (8), 3) := by decide +kernel
theorem dM_size_17 : decode cM_size 17 = .ok (.iload_n 1, 1) := by decide +kernel
theorem dM_size_18 : decode cM_size 18 = .ok (.iconst 5, 1) := by decide +kernel
theorem dM_size_19 : decode cM_size 19 = .ok (.if_icmp .le (9), 3) := by decide +kernel
theorem dM_size_22 : decode cM_size 22 = .ok (.aload_n 0, 1) := by decide +kernel
theorem dM_size_23 : decode cM_size 23 = .ok (.iconst 2, 1) := by decide +kernel
theorem dM_size_24 : decode cM_size 24 = .ok (.invokevirtual 727, 3) := by decide +kernel
theorem dM_size_27 : decode cM_size 27 = .ok (.ireturn, 1) := by decide +kernel
theorem dM_size_28 : decode cM_size 28 = .ok (.aload_n 0, 1) := by decide +kernel
theorem dM_size_29 : decode cM_size 29 = .ok (.iconst 0, 1) := by decide +kernel
theorem dM_size_30 : decode cM_size 30 = .ok (.putfield 348, 3) := by decide +kernel
theorem dM_size_33 : decode cM_size 33 = .ok (.iload_n 1, 1) := by decide +kernel
theorem dM_size_34 : decode cM_size 34 = .ok (.ifCond .ne (10), 3) := by decide +kernel
theorem dM_size_37 : decode cM_size 37 = .ok (.aload_n 0, 1) := by decide +kernel
theorem dM_size_38 : decode cM_size 38 = .ok (.getfield 456, 3) := by decide +kernel
theorem dM_size_41 : decode cM_size 41 = .ok (.goto (57), 3) := by decide +kernel
theorem dM_size_44 : decode cM_size 44 = .ok (.iload_n 1, 1) := by decide +kernel
theorem dM_size_45 : decode cM_size 45 = .ok (.iconst 1, 1) := by decide +kernel
theorem dM_size_46 : decode cM_size 46 = .ok (.if_icmp .ne (10), 3) := by decide +kernel
theorem dM_size_49 : decode cM_size 49 = .ok (.aload_n 0, 1) := by decide +kernel
theorem dM_size_50 : decode cM_size 50 = .ok (.invokevirtual 459, 3) := by decide +kernel
theorem dM_size_53 : decode cM_size 53 = .ok (.goto (45), 3) := by decide +kernel
theorem dM_size_56 : decode cM_size 56 = .ok (.iload_n 1, 1) := by decide +kernel
theorem dM_size_57 : decode cM_size 57 = .ok (.iconst 2, 1) := by decide +kernel
theorem dM_size_58 : decode cM_size 58 = .ok (.if_icmp .ne (10), 3) := by decide +kernel
theorem dM_size_61 : decode cM_size 61 = .ok (.aload_n 0, 1) := by decide +kernel
theorem dM_size_62 : decode cM_size 62 = .ok (.invokevirtual 721, 3) := by decide +kernel
theorem dM_size_65 : decode cM_size 65 = .ok (.goto (33), 3) := by decide +kernel
theorem dM_size_68 : decode cM_size 68 = .ok (.iload_n 1, 1) := by decide +kernel
theorem dM_size_69 : decode cM_size 69 = .ok (.iconst 3, 1) := by decide +kernel
theorem dM_size_70 : decode cM_size 70 = .ok (.if_icmp .ne (11), 3) := by decide +kernel
theorem dM_size_73 : decode cM_size 73 = .ok (.aload_n 0, 1) := by decide +kernel
theorem dM_size_74 : decode cM_size 74 = .ok (.iconst 0, 1) := by decide +kernel
theorem dM_size_75 : decode cM_size 75 = .ok (.invokevirtual 730, 3) := by decide +kernel
theorem dM_size_78 : decode cM_size 78 = .ok (.goto (20), 3) := by decide +kernel
theorem dM_size_81 : decode cM_size 81 = .ok (.iload_n 1, 1) := by decide +kernel
theorem dM_size_82 : decode cM_size 82 = .ok (.iconst 4, 1) := by decide +kernel
theorem dM_size_83 : decode cM_size 83 = .ok (.if_icmp .ne (11), 3) := by decide +kernel
theorem dM_size_86 : decode cM_size 86 = .ok (.aload_n 0, 1) := by decide +kernel
theorem dM_size_87 : decode cM_size 87 = .ok (.iconst 1, 1) := by decide +kernel
theorem dM_size_88 : decode cM_size 88 = .ok (.invokevirtual 730, 3) := by decide +kernel
theorem dM_size_91 : decode cM_size 91 = .ok (.goto (7), 3) := by decide +kernel
theorem dM_size_94 : decode cM_size 94 = .ok (.aload_n 0, 1) := by decide +kernel
theorem dM_size_95 : decode cM_size 95 = .ok (.getfield 703, 3) := by decide +kernel
theorem dM_size_98 : decode cM_size 98 = .ok (.ireturn, 1) := by decide +kernel
abbrev cM_holder : ByteArray := prog_14_method_89_code
def yM_holder : MethodName := ⟨RM, "holder", "(I)I"⟩
abbrev rm_holder : Room := { frames := 2, cells := 0, slots := 0, locals := 42 }
theorem dM_holder_0 : decode cM_holder 0 = .ok (.iconst 0, 1) := by decide +kernel
theorem dM_holder_1 : decode cM_holder 1 = .ok (.istore_n 2, 1) := by decide +kernel
theorem dM_holder_2 : decode cM_holder 2 = .ok (.iload_n 2, 1) := by decide +kernel
theorem dM_holder_3 : decode cM_holder 3 = .ok (.aload_n 0, 1) := by decide +kernel
theorem dM_holder_4 : decode cM_holder 4 = .ok (.getfield 682, 3) := by decide +kernel
theorem dM_holder_7 : decode cM_holder 7 = .ok (.if_icmp .ge (39), 3) := by decide +kernel
theorem dM_holder_10 : decode cM_holder 10 = .ok (.aload_n 0, 1) := by decide +kernel
theorem dM_holder_11 : decode cM_holder 11 = .ok (.iload_n 2, 1) := by decide +kernel
theorem dM_holder_12 : decode cM_holder 12 = .ok (.invokevirtual 700, 3) := by decide +kernel
theorem dM_holder_15 : decode cM_holder 15 = .ok (.istore_n 3, 1) := by decide +kernel
theorem dM_holder_16 : decode cM_holder 16 = .ok (.iload_n 1, 1) := by decide +kernel
theorem dM_holder_17 : decode cM_holder 17 = .ok (.iload_n 3, 1) := by decide +kernel
theorem dM_holder_18 : decode cM_holder 18 = .ok (.if_icmp .lt (22), 3) := by decide +kernel
theorem dM_holder_21 : decode cM_holder 21 = .ok (.iload_n 1, 1) := by decide +kernel
theorem dM_holder_22 : decode cM_holder 22 = .ok (.iload_n 3, 1) := by decide +kernel
theorem dM_holder_23 : decode cM_holder 23 = .ok (.aload_n 0, 1) := by decide +kernel
theorem dM_holder_24 : decode cM_holder 24 = .ok (.iload_n 2, 1) := by decide +kernel
theorem dM_holder_25 : decode cM_holder 25 = .ok (.aload_n 0, 1) := by decide +kernel
theorem dM_holder_26 : decode cM_holder 26 = .ok (.getfield 333, 3) := by decide +kernel
theorem dM_holder_29 : decode cM_holder 29 = .ok (.iload_n 2, 1) := by decide +kernel
theorem dM_holder_30 : decode cM_holder 30 = .ok (.iaload, 1) := by decide +kernel
theorem dM_holder_31 : decode cM_holder 31 = .ok (.invokevirtual 697, 3) := by decide +kernel
theorem dM_holder_34 : decode cM_holder 34 = .ok (.iadd, 1) := by decide +kernel
theorem dM_holder_35 : decode cM_holder 35 = .ok (.if_icmp .ge (5), 3) := by decide +kernel
theorem dM_holder_38 : decode cM_holder 38 = .ok (.iload_n 2, 1) := by decide +kernel
theorem dM_holder_39 : decode cM_holder 39 = .ok (.ireturn, 1) := by decide +kernel
theorem dM_holder_40 : decode cM_holder 40 = .ok (.iinc 2 (1), 3) := by decide +kernel
theorem dM_holder_43 : decode cM_holder 43 = .ok (.goto (-41), 3) := by decide +kernel
theorem dM_holder_46 : decode cM_holder 46 = .ok (.iconst (-1), 1) := by decide +kernel
theorem dM_holder_47 : decode cM_holder 47 = .ok (.ireturn, 1) := by decide +kernel
abbrev cM_byteAt : ByteArray := prog_14_method_90_code
def yM_byteAt : MethodName := ⟨RM, "byteAt", "(I)I"⟩
abbrev rm_byteAt : Room := { frames := 13, cells := 0, slots := 0, locals := 309 }
theorem dM_byteAt_0 : decode cM_byteAt 0 = .ok (.iload_n 1, 1) := by decide +kernel
theorem dM_byteAt_1 : decode cM_byteAt 1 = .ok (.ifCond .lt (11), 3) := by decide +kernel
theorem dM_byteAt_4 : decode cM_byteAt 4 = .ok (.iload_n 1, 1) := by decide +kernel
theorem dM_byteAt_5 : decode cM_byteAt 5 = .ok (.aload_n 0, 1) := by decide +kernel
theorem dM_byteAt_6 : decode cM_byteAt 6 = .ok (.invokevirtual 721, 3) := by decide +kernel
theorem dM_byteAt_9 : decode cM_byteAt 9 = .ok (.if_icmp .lt (9), 3) := by decide +kernel
theorem dM_byteAt_12 : decode cM_byteAt 12 = .ok (.aload_n 0, 1) := by decide +kernel
theorem dM_byteAt_13 : decode cM_byteAt 13 = .ok (.iconst 1, 1) := by decide +kernel
theorem dM_byteAt_14 : decode cM_byteAt 14 = .ok (.invokevirtual 727, 3) := by decide +kernel
theorem dM_byteAt_17 : decode cM_byteAt 17 = .ok (.ireturn, 1) := by decide +kernel
theorem dM_byteAt_18 : decode cM_byteAt 18 = .ok (.aload_n 0, 1) := by decide +kernel
theorem dM_byteAt_19 : decode cM_byteAt 19 = .ok (.iconst 0, 1) := by decide +kernel
theorem dM_byteAt_20 : decode cM_byteAt 20 = .ok (.putfield 348, 3) := by decide +kernel
theorem dM_byteAt_23 : decode cM_byteAt 23 = .ok (.aload_n 0, 1) := by decide +kernel
theorem dM_byteAt_24 : decode cM_byteAt 24 = .ok (.iload_n 1, 1) := by decide +kernel
theorem dM_byteAt_25 : decode cM_byteAt 25 = .ok (.invokevirtual 734, 3) := by decide +kernel
theorem dM_byteAt_28 : decode cM_byteAt 28 = .ok (.istore_n 2, 1) := by decide +kernel
theorem dM_byteAt_29 : decode cM_byteAt 29 = .ok (.iload_n 2, 1) := by decide +kernel
theorem dM_byteAt_30 : decode cM_byteAt 30 = .ok (.ifCond .ge (5), 3) := by decide +kernel
theorem dM_byteAt_33 : decode cM_byteAt 33 = .ok (.iconst 0, 1) := by decide +kernel
theorem dM_byteAt_34 : decode cM_byteAt 34 = .ok (.ireturn, 1) := by decide +kernel
theorem dM_byteAt_35 : decode cM_byteAt 35 = .ok (.aload_n 0, 1) := by decide +kernel
theorem dM_byteAt_36 : decode cM_byteAt 36 = .ok (.iload_n 1, 1) := by decide +kernel
theorem dM_byteAt_37 : decode cM_byteAt 37 = .ok (.aload_n 0, 1) := by decide +kernel
theorem dM_byteAt_38 : decode cM_byteAt 38 = .ok (.iload_n 2, 1) := by decide +kernel
theorem dM_byteAt_39 : decode cM_byteAt 39 = .ok (.invokevirtual 700, 3) := by decide +kernel
theorem dM_byteAt_42 : decode cM_byteAt 42 = .ok (.isub, 1) := by decide +kernel
theorem dM_byteAt_43 : decode cM_byteAt 43 = .ok (.putfield 547, 3) := by decide +kernel
theorem dM_byteAt_46 : decode cM_byteAt 46 = .ok (.aload_n 0, 1) := by decide +kernel
theorem dM_byteAt_47 : decode cM_byteAt 47 = .ok (.iload_n 2, 1) := by decide +kernel
theorem dM_byteAt_48 : decode cM_byteAt 48 = .ok (.iconst 3, 1) := by decide +kernel
theorem dM_byteAt_49 : decode cM_byteAt 49 = .ok (.invokevirtual 709, 3) := by decide +kernel
theorem dM_byteAt_52 : decode cM_byteAt 52 = .ok (.aload_n 0, 1) := by decide +kernel
theorem dM_byteAt_53 : decode cM_byteAt 53 = .ok (.getfield 550, 3) := by decide +kernel
theorem dM_byteAt_56 : decode cM_byteAt 56 = .ok (.ireturn, 1) := by decide +kernel
abbrev cM_labelAt : ByteArray := prog_14_method_91_code
def yM_labelAt : MethodName := ⟨RM, "labelAt", "(I)I"⟩
abbrev rm_labelAt : Room := { frames := 0, cells := 0, slots := 0, locals := 0 }
theorem dM_labelAt_0 : decode cM_labelAt 0 = .ok (.aload_n 0, 1) := by decide +kernel
theorem dM_labelAt_1 : decode cM_labelAt 1 = .ok (.getfield 712, 3) := by decide +kernel
theorem dM_labelAt_4 : decode cM_labelAt 4 = .ok (.ifCond .eq (7), 3) := by decide +kernel
theorem dM_labelAt_7 : decode cM_labelAt 7 = .ok (.iload_n 1, 1) := by decide +kernel
theorem dM_labelAt_8 : decode cM_labelAt 8 = .ok (.goto (4), 3) := by decide +kernel
theorem dM_labelAt_11 : decode cM_labelAt 11 = .ok (.iconst (-1), 1) := by decide +kernel
theorem dM_labelAt_12 : decode cM_labelAt 12 = .ok (.istore_n 2, 1) := by decide +kernel
theorem dM_labelAt_13 : decode cM_labelAt 13 = .ok (.iconst 0, 1) := by decide +kernel
theorem dM_labelAt_14 : decode cM_labelAt 14 = .ok (.istore_n 3, 1) := by decide +kernel
theorem dM_labelAt_15 : decode cM_labelAt 15 = .ok (.iload_n 3, 1) := by decide +kernel
theorem dM_labelAt_16 : decode cM_labelAt 16 = .ok (.aload_n 0, 1) := by decide +kernel
theorem dM_labelAt_17 : decode cM_labelAt 17 = .ok (.getfield 449, 3) := by decide +kernel
theorem dM_labelAt_20 : decode cM_labelAt 20 = .ok (.if_icmp .ge (38), 3) := by decide +kernel
theorem dM_labelAt_23 : decode cM_labelAt 23 = .ok (.iload_n 2, 1) := by decide +kernel
theorem dM_labelAt_24 : decode cM_labelAt 24 = .ok (.ifCond .lt (34), 3) := by decide +kernel
theorem dM_labelAt_27 : decode cM_labelAt 27 = .ok (.aload_n 0, 1) := by decide +kernel
theorem dM_labelAt_28 : decode cM_labelAt 28 = .ok (.getfield 339, 3) := by decide +kernel
theorem dM_labelAt_31 : decode cM_labelAt 31 = .ok (.iload_n 3, 1) := by decide +kernel
theorem dM_labelAt_32 : decode cM_labelAt 32 = .ok (.iaload, 1) := by decide +kernel
theorem dM_labelAt_33 : decode cM_labelAt 33 = .ok (.bipush 13, 2) := by decide +kernel
theorem dM_labelAt_35 : decode cM_labelAt 35 = .ok (.ishr, 1) := by decide +kernel
theorem dM_labelAt_36 : decode cM_labelAt 36 = .ok (.iconst 2, 1) := by decide +kernel
theorem dM_labelAt_37 : decode cM_labelAt 37 = .ok (.if_icmp .lt (6), 3) := by decide +kernel
theorem dM_labelAt_40 : decode cM_labelAt 40 = .ok (.goto (12), 3) := by decide +kernel
theorem dM_labelAt_43 : decode cM_labelAt 43 = .ok (.iload_n 2, 1) := by decide +kernel
theorem dM_labelAt_44 : decode cM_labelAt 44 = .ok (.ifCond .ne (5), 3) := by decide +kernel
theorem dM_labelAt_47 : decode cM_labelAt 47 = .ok (.iload_n 3, 1) := by decide +kernel
theorem dM_labelAt_48 : decode cM_labelAt 48 = .ok (.ireturn, 1) := by decide +kernel
theorem dM_labelAt_49 : decode cM_labelAt 49 = .ok (.iinc 2 (-1), 3) := by decide +kernel
theorem dM_labelAt_52 : decode cM_labelAt 52 = .ok (.iinc 3 (1), 3) := by decide +kernel
theorem dM_labelAt_55 : decode cM_labelAt 55 = .ok (.goto (-40), 3) := by decide +kernel
theorem dM_labelAt_58 : decode cM_labelAt 58 = .ok (.iconst (-1), 1) := by decide +kernel
theorem dM_labelAt_59 : decode cM_labelAt 59 = .ok (.ireturn, 1) := by decide +kernel
abbrev cM_address : ByteArray := prog_14_method_92_code
def yM_address : MethodName := ⟨RM, "address", "(I)I"⟩
abbrev rm_address : Room := { frames := 2, cells := 0, slots := 0, locals := 42 }
theorem dM_address_0 : decode cM_address 0 = .ok (.aload_n 0, 1) := by decide +kernel
theorem dM_address_1 : decode cM_address 1 = .ok (.iload_n 1, 1) := by decide +kernel
theorem dM_address_2 : decode cM_address 2 = .ok (.invokevirtual 737, 3) := by decide +kernel
theorem dM_address_5 : decode cM_address 5 = .ok (.istore_n 2, 1) := by decide +kernel
theorem dM_address_6 : decode cM_address 6 = .ok (.aload_n 0, 1) := by decide +kernel
theorem dM_address_7 : decode cM_address 7 = .ok (.iload_n 2, 1) := by decide +kernel
theorem dM_address_8 : decode cM_address 8 = .ok (.ifCond .ge (7), 3) := by decide +kernel
theorem dM_address_11 : decode cM_address 11 = .ok (.iconst 1, 1) := by decide +kernel
theorem dM_address_12 : decode cM_address 12 = .ok (.goto (4), 3) := by decide +kernel
theorem dM_address_15 : decode cM_address 15 = .ok (.iconst 0, 1) := by decide +kernel
theorem dM_address_16 : decode cM_address 16 = .ok (.putfield 348, 3) := by decide +kernel
theorem dM_address_19 : decode cM_address 19 = .ok (.iload_n 2, 1) := by decide +kernel
theorem dM_address_20 : decode cM_address 20 = .ok (.ifCond .ge (7), 3) := by decide +kernel
theorem dM_address_23 : decode cM_address 23 = .ok (.iconst 0, 1) := by decide +kernel
theorem dM_address_24 : decode cM_address 24 = .ok (.goto (8), 3) := by decide +kernel
theorem dM_address_27 : decode cM_address 27 = .ok (.aload_n 0, 1) := by decide +kernel
theorem dM_address_28 : decode cM_address 28 = .ok (.iload_n 2, 1) := by decide +kernel
theorem dM_address_29 : decode cM_address 29 = .ok (.invokevirtual 470, 3) := by decide +kernel
theorem dM_address_32 : decode cM_address 32 = .ok (.ireturn, 1) := by decide +kernel
abbrev cM_letter : ByteArray := prog_14_method_93_code
def yM_letter : MethodName := ⟨RM, "letter", "(II)C"⟩
abbrev rm_letter : Room := { frames := 3, cells := 0, slots := 0, locals := 62 }
theorem dM_letter_0 : decode cM_letter 0 = .ok (.aload_n 0, 1) := by decide +kernel
theorem dM_letter_1 : decode cM_letter 1 = .ok (.iload_n 1, 1) := by decide +kernel
theorem dM_letter_2 : decode cM_letter 2 = .ok (.invokevirtual 737, 3) := by decide +kernel
theorem dM_letter_5 : decode cM_letter 5 = .ok (.istore_n 3, 1) := by decide +kernel
theorem dM_letter_6 : decode cM_letter 6 = .ok (.iload_n 3, 1) := by decide +kernel
theorem dM_letter_7 : decode cM_letter 7 = .ok (.ifCond .ge (7), 3) := by decide +kernel
theorem dM_letter_10 : decode cM_letter 10 = .ok (.iconst 0, 1) := by decide +kernel
theorem dM_letter_11 : decode cM_letter 11 = .ok (.goto (13), 3) := by decide +kernel
theorem dM_letter_14 : decode cM_letter 14 = .ok (.aload_n 0, 1) := by decide +kernel
theorem dM_letter_15 : decode cM_letter 15 = .ok (.getfield 339, 3) := by decide +kernel
theorem dM_letter_18 : decode cM_letter 18 = .ok (.iload_n 3, 1) := by decide +kernel
theorem dM_letter_19 : decode cM_letter 19 = .ok (.iaload, 1) := by decide +kernel
theorem dM_letter_20 : decode cM_letter 20 = .ok (.sipush 8191, 3) := by decide +kernel
theorem dM_letter_23 : decode cM_letter 23 = .ok (.iand, 1) := by decide +kernel
theorem dM_letter_24 : decode cM_letter 24 = .ok (.istore 4, 2) := by decide +kernel
theorem dM_letter_26 : decode cM_letter 26 = .ok (.aload_n 0, 1) := by decide +kernel
theorem dM_letter_27 : decode cM_letter 27 = .ok (.iload_n 3, 1) := by decide +kernel
theorem dM_letter_28 : decode cM_letter 28 = .ok (.ifCond .lt (20), 3) := by decide +kernel
theorem dM_letter_31 : decode cM_letter 31 = .ok (.iload_n 2, 1) := by decide +kernel
theorem dM_letter_32 : decode cM_letter 32 = .ok (.ifCond .lt (16), 3) := by decide +kernel
theorem dM_letter_35 : decode cM_letter 35 = .ok (.iload_n 2, 1) := by decide +kernel
theorem dM_letter_36 : decode cM_letter 36 = .ok (.aload_n 0, 1) := by decide +kernel
theorem dM_letter_37 : decode cM_letter 37 = .ok (.iload 4, 2) := by decide +kernel
theorem dM_letter_39 : decode cM_letter 39 = .ok (.invokevirtual 387, 3) := by decide +kernel
theorem dM_letter_42 : decode cM_letter 42 = .ok (.iload 4, 2) := by decide +kernel
theorem dM_letter_44 : decode cM_letter 44 = .ok (.isub, 1) := by decide +kernel
theorem dM_letter_45 : decode cM_letter 45 = .ok (.if_icmp .lt (7), 3) := by decide +kernel
theorem dM_letter_48 : decode cM_letter 48 = .ok (.iconst 1, 1) := by decide +kernel
theorem dM_letter_49 : decode cM_letter 49 = .ok (.goto (4), 3) := by decide +kernel
theorem dM_letter_52 : decode cM_letter 52 = .ok (.iconst 0, 1) := by decide +kernel
theorem dM_letter_53 : decode cM_letter 53 = .ok (.putfield 348, 3) := by decide +kernel
theorem dM_letter_56 : decode cM_letter 56 = .ok (.aload_n 0, 1) := by decide +kernel
theorem dM_letter_57 : decode cM_letter 57 = .ok (.getfield 348, 3) := by decide +kernel
theorem dM_letter_60 : decode cM_letter 60 = .ok (.ifCond .le (7), 3) := by decide +kernel
theorem dM_letter_63 : decode cM_letter 63 = .ok (.iconst 0, 1) := by decide +kernel
theorem dM_letter_64 : decode cM_letter 64 = .ok (.goto (12), 3) := by decide +kernel
theorem dM_letter_67 : decode cM_letter 67 = .ok (.aload_n 0, 1) := by decide +kernel
theorem dM_letter_68 : decode cM_letter 68 = .ok (.getfield 327, 3) := by decide +kernel
theorem dM_letter_71 : decode cM_letter 71 = .ok (.iload 4, 2) := by decide +kernel
theorem dM_letter_73 : decode cM_letter 73 = .ok (.iload_n 2, 1) := by decide +kernel
theorem dM_letter_74 : decode cM_letter 74 = .ok (.iadd, 1) := by decide +kernel
theorem dM_letter_75 : decode cM_letter 75 = .ok (.caload, 1) := by decide +kernel
theorem dM_letter_76 : decode cM_letter 76 = .ok (.ireturn, 1) := by decide +kernel
abbrev cM_line : ByteArray := prog_14_method_94_code
def yM_line : MethodName := ⟨RM, "line", "(I)I"⟩
abbrev rm_line : Room := { frames := 3, cells := 0, slots := 0, locals := 65 }
theorem dM_line_0 : decode cM_line 0 = .ok (.aload_n 0, 1) := by decide +kernel
theorem dM_line_1 : decode cM_line 1 = .ok (.iconst 0, 1) := by decide +kernel
theorem dM_line_2 : decode cM_line 2 = .ok (.putfield 348, 3) := by decide +kernel
theorem dM_line_5 : decode cM_line 5 = .ok (.iload_n 1, 1) := by decide +kernel
theorem dM_line_6 : decode cM_line 6 = .ok (.ifCond .lt (11), 3) := by decide +kernel
theorem dM_line_9 : decode cM_line 9 = .ok (.iload_n 1, 1) := by decide +kernel
theorem dM_line_10 : decode cM_line 10 = .ok (.aload_n 0, 1) := by decide +kernel
theorem dM_line_11 : decode cM_line 11 = .ok (.invokevirtual 721, 3) := by decide +kernel
theorem dM_line_14 : decode cM_line 14 = .ok (.if_icmp .lt (7), 3) := by decide +kernel
theorem dM_line_17 : decode cM_line 17 = .ok (.iconst (-1), 1) := by decide +kernel
theorem dM_line_18 : decode cM_line 18 = .ok (.goto (8), 3) := by decide +kernel
theorem dM_line_21 : decode cM_line 21 = .ok (.aload_n 0, 1) := by decide +kernel
theorem dM_line_22 : decode cM_line 22 = .ok (.iload_n 1, 1) := by decide +kernel
theorem dM_line_23 : decode cM_line 23 = .ok (.invokevirtual 734, 3) := by decide +kernel
theorem dM_line_26 : decode cM_line 26 = .ok (.istore_n 2, 1) := by decide +kernel
theorem dM_line_27 : decode cM_line 27 = .ok (.iload_n 2, 1) := by decide +kernel
theorem dM_line_28 : decode cM_line 28 = .ok (.ifCond .ge (7), 3) := by decide +kernel
theorem dM_line_31 : decode cM_line 31 = .ok (.iconst 0, 1) := by decide +kernel
theorem dM_line_32 : decode cM_line 32 = .ok (.goto (17), 3) := by decide +kernel
theorem dM_line_35 : decode cM_line 35 = .ok (.aload_n 0, 1) := by decide +kernel
theorem dM_line_36 : decode cM_line 36 = .ok (.aload_n 0, 1) := by decide +kernel
theorem dM_line_37 : decode cM_line 37 = .ok (.getfield 330, 3) := by decide +kernel
theorem dM_line_40 : decode cM_line 40 = .ok (.iload_n 2, 1) := by decide +kernel
theorem dM_line_41 : decode cM_line 41 = .ok (.iaload, 1) := by decide +kernel
theorem dM_line_42 : decode cM_line 42 = .ok (.sipush 8191, 3) := by decide +kernel
theorem dM_line_45 : decode cM_line 45 = .ok (.iand, 1) := by decide +kernel
theorem dM_line_46 : decode cM_line 46 = .ok (.invokevirtual 724, 3) := by decide +kernel
theorem dM_line_49 : decode cM_line 49 = .ok (.ireturn, 1) := by decide +kernel
theorem gM_again_709 : GoodIn lw_gd (wsV RM 709 RM yM_again (.code yM_again cM_again 3 none :: lw_gd)) := lw_GV q_2113 q_2110 q_2112 qs_116 q_23
theorem gM_all_721 : GoodIn lw_gd (wsV RM 721 RM yM_all (.code yM_all cM_all 1 (some .int) :: lw_gd)) := lw_GV q_2121 q_2118 q_2120 qs_118 q_23
theorem gM_holder_734 : GoodIn lw_gd (wsV RM 734 RM yM_holder (.code yM_holder cM_holder 4 (some .int) :: lw_gd)) := lw_GV q_2145 q_2142 q_2144 qs_122 q_23
theorem gM_labelAt_737 : GoodIn lw_gd (wsV RM 737 RM yM_labelAt (.code yM_labelAt cM_labelAt 4 (some .int) :: lw_gd)) := lw_GV q_2153 q_2150 q_2152 qs_123 q_23
theorem gM_labelsOf_730 : GoodIn lw_gd (wsV RM 730 RM yM_labelsOf (.code yM_labelsOf cM_labelsOf 4 (some .int) :: lw_gd)) := lw_GV q_2137 q_2134 q_2136 qs_121 q_23
theorem gM_layout_706 : GoodIn lw_gd (wsV RM 706 RM yM_layout (.code yM_layout cM_layout 5 none :: lw_gd)) := lw_GV q_2101 q_2098 q_2100 qs_113 q_23
theorem gM_lineOf_724 : GoodIn lw_gd (wsV RM 724 RM yM_lineOf (.code yM_lineOf cM_lineOf 4 (some .int) :: lw_gd)) := lw_GV q_2125 q_2122 q_2124 qs_119 q_23
theorem gM_readAll_715 : GoodIn lw_gd (wsV RM 715 RM yM_readAll (.code yM_readAll cM_readAll 4 none :: lw_gd)) := lw_GV q_1801 q_1798 q_1800 qs_51 q_23
theorem gM_refuse_727 : GoodIn lw_gd (wsV RM 727 RM yM_refuse (.code yM_refuse cM_refuse 2 (some .int) :: lw_gd)) := lw_GV q_2133 q_2130 q_2132 qs_120 q_23
theorem gM_stretch_718 : GoodIn lw_gd (wsV RM 718 RM yM_stretch (.code yM_stretch cM_stretch 3 none :: lw_gd)) := lw_GV q_2097 q_2094 q_2096 qs_112 q_23
section
variable {p : Program} {l : Launch} {e : Env} {s : State} {m : MethodId} {args : Array Value} {below : List Frame} {meth : Method} {c : Code} {D : va_G} {dA : Nat → ClassId} {h : Nat → Nat} {A : Nat → Prop}
def M_stretch_113 (N : Nat) (rec7 : Int32 → MS → Option (Int32 × MS)) (x1 : Int32) (t1 : Int32) (σ : MS) : Option (Int32 × MS) :=
  bnd (sF σ 8 t1) (fun σ1 => rec7 x1 σ1)
set_option maxHeartbeats 4000000 in
set_option maxRecDepth 100000 in
theorem bM_stretch_113 (N : Nat) (rec7 : Int32 → MS → Option (Int32 × MS)) {r : Int32} {σ' : MS} (C : CxM p s m args meth c cM_stretch 3 none D dA A) (hrec7 : ∀ (x1 : Int32) (σ : MS), rec7 x1 σ = some (r, σ') → ∀ (H : Heap) (locs : List Loc), WdM D dA h A s σ H locs → ∀ (ls : Array Slot), lv_has ls 3 [(0, .ref (h 0)), (1, .int x1)] → W p l e rm_stretch s m args below meth c H locs 0 0 (MQ below (QM D dA h A σ' none) args s 0 0 A) (F0 m 7 ls [])) (x1 : Int32) (t1 : Int32) (σ : MS) (hM : M_stretch_113 N rec7 x1 t1 σ = some (r, σ')) (H : Heap) (locs : List Loc) (hW : WdM D dA h A s σ H locs) (ls : Array Slot) (hl : lv_has ls 3 [(0, .ref (h 0)), (1, .int x1)]) : W p l e rm_stretch s m args below meth c H locs 0 0 (MQ below (QM D dA h A σ' none) args s 0 0 A) (F0 m 113 ls [.int t1, .ref (h 0)]) := by
  have hx := C.1.1
  have hb := C.1.2.1
  have hown := C.1.2.2.2.2.1
  have hT := C.1.2.2.2.2.2.1
  unfold M_stretch_113 at hM
  refine pM (pc := 113) (ty := .int) C hW 18 8 (by decide) q_1675 rfl rfl (by decide +kernel) rfl rfl (st_rounds dA h _ _) dM_stretch_113 (fun H locs hW => ?_)
  obtain ⟨σ1, eσ1, hM⟩ := bnd_some hM
  rw [← eσ1] at hW
  refine lv_goto (pc := 116) (tgt := 7) hx hb dM_stretch_116 (by decide) ?_
  exact hrec7 _ _ hM _ _ hW _ (lv_sub hl [0, 1] rfl)
def M_stretch_89 (N : Nat) (rec7 : Int32 → MS → Option (Int32 × MS)) (rec19 : Int32 → Int32 → MS → Option (Int32 × MS)) (x1 : Int32) (x2 : Int32) (σ : MS) : Option (Int32 × MS) :=
  rec19 x1 (x2 + (1 : Int32)) σ
set_option maxHeartbeats 4000000 in
set_option maxRecDepth 100000 in
theorem bM_stretch_89 (N : Nat) (rec7 : Int32 → MS → Option (Int32 × MS)) (rec19 : Int32 → Int32 → MS → Option (Int32 × MS)) {r : Int32} {σ' : MS} (C : CxM p s m args meth c cM_stretch 3 none D dA A) (hrec7 : ∀ (x1 : Int32) (σ : MS), rec7 x1 σ = some (r, σ') → ∀ (H : Heap) (locs : List Loc), WdM D dA h A s σ H locs → ∀ (ls : Array Slot), lv_has ls 3 [(0, .ref (h 0)), (1, .int x1)] → W p l e rm_stretch s m args below meth c H locs 0 0 (MQ below (QM D dA h A σ' none) args s 0 0 A) (F0 m 7 ls [])) (hrec19 : ∀ (x1 : Int32) (x2 : Int32) (σ : MS), rec19 x1 x2 σ = some (r, σ') → ∀ (H : Heap) (locs : List Loc), WdM D dA h A s σ H locs → ∀ (ls : Array Slot), lv_has ls 3 [(0, .ref (h 0)), (1, .int x1), (2, .int x2)] → W p l e rm_stretch s m args below meth c H locs 0 0 (MQ below (QM D dA h A σ' none) args s 0 0 A) (F0 m 19 ls [])) (x1 : Int32) (x2 : Int32) (σ : MS) (hM : M_stretch_89 N rec7 rec19 x1 x2 σ = some (r, σ')) (H : Heap) (locs : List Loc) (hW : WdM D dA h A s σ H locs) (ls : Array Slot) (hl : lv_has ls 3 [(0, .ref (h 0)), (1, .int x1), (2, .int x2)]) : W p l e rm_stretch s m args below meth c H locs 0 0 (MQ below (QM D dA h A σ' none) args s 0 0 A) (F0 m 89 ls []) := by
  have hx := C.1.1
  have hb := C.1.2.1
  have hown := C.1.2.2.2.2.1
  have hT := C.1.2.2.2.2.2.1
  unfold M_stretch_89 at hM
  refine lv_iinc (pc := 89) (v := x2 + (1 : Int32)) (lv' := [(2, .int (x2 + (1 : Int32))), (0, .ref (h 0)), (1, .int x1)]) hx hb dM_stretch_89 hl (k := 2) rfl rfl (by decide) rfl (fun ls hl => ?_)
  refine lv_goto (pc := 92) (tgt := 19) hx hb dM_stretch_92 (by decide) ?_
  exact hrec19 _ _ _ hM _ _ hW _ (lv_sub hl [1, 2, 0] rfl)
def M_stretch_88 (N : Nat) (rec7 : Int32 → MS → Option (Int32 × MS)) (rec19 : Int32 → Int32 → MS → Option (Int32 × MS)) (x2 : Int32) (t0 : Int32) (σ : MS) : Option (Int32 × MS) :=
  M_stretch_89 N rec7 rec19 t0 x2 σ
set_option maxHeartbeats 4000000 in
set_option maxRecDepth 100000 in
theorem bM_stretch_88 (N : Nat) (rec7 : Int32 → MS → Option (Int32 × MS)) (rec19 : Int32 → Int32 → MS → Option (Int32 × MS)) {r : Int32} {σ' : MS} (C : CxM p s m args meth c cM_stretch 3 none D dA A) (hrec7 : ∀ (x1 : Int32) (σ : MS), rec7 x1 σ = some (r, σ') → ∀ (H : Heap) (locs : List Loc), WdM D dA h A s σ H locs → ∀ (ls : Array Slot), lv_has ls 3 [(0, .ref (h 0)), (1, .int x1)] → W p l e rm_stretch s m args below meth c H locs 0 0 (MQ below (QM D dA h A σ' none) args s 0 0 A) (F0 m 7 ls [])) (hrec19 : ∀ (x1 : Int32) (x2 : Int32) (σ : MS), rec19 x1 x2 σ = some (r, σ') → ∀ (H : Heap) (locs : List Loc), WdM D dA h A s σ H locs → ∀ (ls : Array Slot), lv_has ls 3 [(0, .ref (h 0)), (1, .int x1), (2, .int x2)] → W p l e rm_stretch s m args below meth c H locs 0 0 (MQ below (QM D dA h A σ' none) args s 0 0 A) (F0 m 19 ls [])) (x2 : Int32) (t0 : Int32) (σ : MS) (hM : M_stretch_88 N rec7 rec19 x2 t0 σ = some (r, σ')) (H : Heap) (locs : List Loc) (hW : WdM D dA h A s σ H locs) (ls : Array Slot) (hl : lv_has ls 3 [(0, .ref (h 0)), (2, .int x2)]) : W p l e rm_stretch s m args below meth c H locs 0 0 (MQ below (QM D dA h A σ' none) args s 0 0 A) (F0 m 88 ls [.int t0]) := by
  have hx := C.1.1
  have hb := C.1.2.1
  have hown := C.1.2.2.2.2.1
  have hT := C.1.2.2.2.2.2.1
  unfold M_stretch_88 at hM
  refine lv_istore_n (pc := 88) (lv' := [(1, .int t0), (0, .ref (h 0)), (2, .int x2)]) hx hb dM_stretch_88 rfl hl (by decide) rfl (fun ls hl => ?_)
  exact bM_stretch_89 N rec7 rec19 C hrec7 hrec19 _ _ _ hM _ _ hW _ (lv_sub hl [1, 0, 2] rfl)
def M_stretch_83 (N : Nat) (rec7 : Int32 → MS → Option (Int32 × MS)) (rec19 : Int32 → Int32 → MS → Option (Int32 × MS)) (x2 : Int32) (σ : MS) : Option (Int32 × MS) :=
  M_stretch_88 N rec7 rec19 x2 (1 : Int32) σ
set_option maxHeartbeats 4000000 in
set_option maxRecDepth 100000 in
theorem bM_stretch_83 (N : Nat) (rec7 : Int32 → MS → Option (Int32 × MS)) (rec19 : Int32 → Int32 → MS → Option (Int32 × MS)) {r : Int32} {σ' : MS} (C : CxM p s m args meth c cM_stretch 3 none D dA A) (hrec7 : ∀ (x1 : Int32) (σ : MS), rec7 x1 σ = some (r, σ') → ∀ (H : Heap) (locs : List Loc), WdM D dA h A s σ H locs → ∀ (ls : Array Slot), lv_has ls 3 [(0, .ref (h 0)), (1, .int x1)] → W p l e rm_stretch s m args below meth c H locs 0 0 (MQ below (QM D dA h A σ' none) args s 0 0 A) (F0 m 7 ls [])) (hrec19 : ∀ (x1 : Int32) (x2 : Int32) (σ : MS), rec19 x1 x2 σ = some (r, σ') → ∀ (H : Heap) (locs : List Loc), WdM D dA h A s σ H locs → ∀ (ls : Array Slot), lv_has ls 3 [(0, .ref (h 0)), (1, .int x1), (2, .int x2)] → W p l e rm_stretch s m args below meth c H locs 0 0 (MQ below (QM D dA h A σ' none) args s 0 0 A) (F0 m 19 ls [])) (x2 : Int32) (σ : MS) (hM : M_stretch_83 N rec7 rec19 x2 σ = some (r, σ')) (H : Heap) (locs : List Loc) (hW : WdM D dA h A s σ H locs) (ls : Array Slot) (hl : lv_has ls 3 [(0, .ref (h 0)), (2, .int x2)]) : W p l e rm_stretch s m args below meth c H locs 0 0 (MQ below (QM D dA h A σ' none) args s 0 0 A) (F0 m 83 ls []) := by
  have hx := C.1.1
  have hb := C.1.2.1
  have hown := C.1.2.2.2.2.1
  have hT := C.1.2.2.2.2.2.1
  unfold M_stretch_83 at hM
  refine lv_iconst (pc := 83) (v := 1) hx hb dM_stretch_83 (by decide) ?_
  refine lv_goto (pc := 84) (tgt := 88) hx hb dM_stretch_84 (by decide) ?_
  exact bM_stretch_88 N rec7 rec19 C hrec7 hrec19 _ _ _ hM _ _ hW _ (lv_sub hl [0, 1] rfl)
def M_stretch_72 (N : Nat) (rec7 : Int32 → MS → Option (Int32 × MS)) (rec19 : Int32 → Int32 → MS → Option (Int32 × MS)) (x1 : Int32) (x2 : Int32) (σ : MS) : Option (Int32 × MS) :=
  (if x1 = 0 then (if (σ.1 23) = 0 then M_stretch_88 N rec7 rec19 x2 (0 : Int32) σ else M_stretch_83 N rec7 rec19 x2 σ) else M_stretch_83 N rec7 rec19 x2 σ)
set_option maxHeartbeats 4000000 in
set_option maxRecDepth 100000 in
theorem bM_stretch_72 (N : Nat) (rec7 : Int32 → MS → Option (Int32 × MS)) (rec19 : Int32 → Int32 → MS → Option (Int32 × MS)) {r : Int32} {σ' : MS} (C : CxM p s m args meth c cM_stretch 3 none D dA A) (hrec7 : ∀ (x1 : Int32) (σ : MS), rec7 x1 σ = some (r, σ') → ∀ (H : Heap) (locs : List Loc), WdM D dA h A s σ H locs → ∀ (ls : Array Slot), lv_has ls 3 [(0, .ref (h 0)), (1, .int x1)] → W p l e rm_stretch s m args below meth c H locs 0 0 (MQ below (QM D dA h A σ' none) args s 0 0 A) (F0 m 7 ls [])) (hrec19 : ∀ (x1 : Int32) (x2 : Int32) (σ : MS), rec19 x1 x2 σ = some (r, σ') → ∀ (H : Heap) (locs : List Loc), WdM D dA h A s σ H locs → ∀ (ls : Array Slot), lv_has ls 3 [(0, .ref (h 0)), (1, .int x1), (2, .int x2)] → W p l e rm_stretch s m args below meth c H locs 0 0 (MQ below (QM D dA h A σ' none) args s 0 0 A) (F0 m 19 ls [])) (x1 : Int32) (x2 : Int32) (σ : MS) (hM : M_stretch_72 N rec7 rec19 x1 x2 σ = some (r, σ')) (H : Heap) (locs : List Loc) (hW : WdM D dA h A s σ H locs) (ls : Array Slot) (hl : lv_has ls 3 [(0, .ref (h 0)), (1, .int x1), (2, .int x2)]) : W p l e rm_stretch s m args below meth c H locs 0 0 (MQ below (QM D dA h A σ' none) args s 0 0 A) (F0 m 72 ls []) := by
  have hx := C.1.1
  have hb := C.1.2.1
  have hown := C.1.2.2.2.2.1
  have hT := C.1.2.2.2.2.2.1
  unfold M_stretch_72 at hM
  refine lv_iload_n (pc := 72) hx hb dM_stretch_72 rfl (lv_at hl 1 rfl) ?_
  refine lv_if_ne (pc := 73) (tgt := 83) hx hb dM_stretch_73 (by decide) (fun hc => ?_) (fun hc => ?_)
  · replace hM := it_f hc hM
    exact bM_stretch_83 N rec7 rec19 C hrec7 hrec19 _ _ hM _ _ hW _ (lv_sub hl [0, 2] rfl)
  · replace hM := it_t hc hM
    refine lv_aload_n (pc := 76) hx hb dM_stretch_76 rfl (lv_at hl 0 rfl) ?_
    refine gM (pc := 77) C hW 33 (by decide) q_1690 rfl rfl dM_stretch_77 ?_
    refine lv_if_eq (pc := 80) (tgt := 87) hx hb dM_stretch_80 (by decide) (fun hc => ?_) (fun hc => ?_)
    · replace hM := it_t hc hM
      refine lv_iconst (pc := 87) (v := 0) hx hb dM_stretch_87 (by decide) ?_
      exact bM_stretch_88 N rec7 rec19 C hrec7 hrec19 _ _ _ hM _ _ hW _ (lv_sub hl [0, 2] rfl)
    · replace hM := it_f hc hM
      exact bM_stretch_83 N rec7 rec19 C hrec7 hrec19 _ _ hM _ _ hW _ (lv_sub hl [0, 2] rfl)
def M_stretch_19 (N : Nat) (rec7 : Int32 → MS → Option (Int32 × MS)) : Nat → Int32 → Int32 → MS → Option (Int32 × MS)
  | 0 => fun _ _ _ => none
  | n + 1 => fun x1 x2 σ => (if (σ.1 4) ≤ x2 then (if x1 = 0 then M_stretch_113 N rec7 x1 (σ.1 8) σ else M_stretch_113 N rec7 x1 ((σ.1 8) + (1 : Int32)) σ) else gd (inB x2 1030) ((if ((σ.2 2 x2.toNatClampNeg) >>> ((16 : Int32) &&& 31)) = 0 then M_stretch_89 N rec7 (M_stretch_19 N rec7 n) x1 x2 σ else bnd (sF σ 23 (0 : Int32)) (fun σ2 => cl (M_again N x2 (1 : Int32) σ2) (fun r3 σ4 => (if (σ4.1 23) = 0 then M_stretch_72 N rec7 (M_stretch_19 N rec7 n) x1 x2 σ4 else gd (inB x2 1030) (gd (inB x2 1030) (bnd (sA σ4 2 x2.toNatClampNeg ((σ4.2 2 x2.toNatClampNeg) + (8192 : Int32))) (fun σ7 => M_stretch_72 N rec7 (M_stretch_19 N rec7 n) x1 x2 σ7)))))))))
set_option maxHeartbeats 4000000 in
set_option maxRecDepth 100000 in
theorem bM_stretch_19 (N : Nat) (rec7 : Int32 → MS → Option (Int32 × MS)) {r : Int32} {σ' : MS} (C : CxM p s m args meth c cM_stretch 3 none D dA A) (hrec7 : ∀ (x1 : Int32) (σ : MS), rec7 x1 σ = some (r, σ') → ∀ (H : Heap) (locs : List Loc), WdM D dA h A s σ H locs → ∀ (ls : Array Slot), lv_has ls 3 [(0, .ref (h 0)), (1, .int x1)] → W p l e rm_stretch s m args below meth c H locs 0 0 (MQ below (QM D dA h A σ' none) args s 0 0 A) (F0 m 7 ls [])) : ∀ (n : Nat) (x1 : Int32) (x2 : Int32) (σ : MS), M_stretch_19 N rec7 n x1 x2 σ = some (r, σ') → ∀ (H : Heap) (locs : List Loc), WdM D dA h A s σ H locs → ∀ (ls : Array Slot), lv_has ls 3 [(0, .ref (h 0)), (1, .int x1), (2, .int x2)] → W p l e rm_stretch s m args below meth c H locs 0 0 (MQ below (QM D dA h A σ' none) args s 0 0 A) (F0 m 19 ls []) := by
  have hx := C.1.1
  have hb := C.1.2.1
  have hown := C.1.2.2.2.2.1
  have hT := C.1.2.2.2.2.2.1
  intro n
  induction n with
  | zero => intro x1 x2 σ hM; cases hM
  | succ n hrec19 =>
    intro x1 x2 σ hM H locs hW ls hl
    rw [M_stretch_19] at hM
    refine lv_iload_n (pc := 19) hx hb dM_stretch_19 rfl (lv_at hl 2 rfl) ?_
    refine lv_aload_n (pc := 20) hx hb dM_stretch_20 rfl (lv_at hl 0 rfl) ?_
    refine gM (pc := 21) C hW 9 (by decide) q_1666 rfl rfl dM_stretch_21 ?_
    refine lv_icmp_ge (pc := 24) (tgt := 95) hx hb dM_stretch_24 (by decide) (fun hc => ?_) (fun hc => ?_)
    · replace hM := it_t hc hM
      refine lv_aload_n (pc := 95) hx hb dM_stretch_95 rfl (lv_at hl 0 rfl) ?_
      refine lv_iload_n (pc := 96) hx hb dM_stretch_96 rfl (lv_at hl 1 rfl) ?_
      refine lv_if_eq (pc := 97) (tgt := 109) hx hb dM_stretch_97 (by decide) (fun hc => ?_) (fun hc => ?_)
      · replace hM := it_t hc hM
        refine lv_aload_n (pc := 109) hx hb dM_stretch_109 rfl (lv_at hl 0 rfl) ?_
        refine gM (pc := 110) C hW 18 (by decide) q_1675 rfl rfl dM_stretch_110 ?_
        exact bM_stretch_113 N rec7 C hrec7 _ _ _ hM _ _ hW _ (lv_sub hl [0, 1] rfl)
      · replace hM := it_f hc hM
        refine lv_aload_n (pc := 100) hx hb dM_stretch_100 rfl (lv_at hl 0 rfl) ?_
        refine gM (pc := 101) C hW 18 (by decide) q_1675 rfl rfl dM_stretch_101 ?_
        refine lv_iconst (pc := 104) (v := 1) hx hb dM_stretch_104 (by decide) ?_
        refine lv_iadd (pc := 105) hx hb dM_stretch_105 ?_
        refine lv_goto (pc := 106) (tgt := 113) hx hb dM_stretch_106 (by decide) ?_
        exact bM_stretch_113 N rec7 C hrec7 _ _ _ hM _ _ hW _ (lv_sub hl [0, 1] rfl)
    · replace hM := it_f hc hM
      refine lv_aload_n (pc := 27) hx hb dM_stretch_27 rfl (lv_at hl 0 rfl) ?_
      refine gM (pc := 28) C hW 10 (by decide) q_1667 rfl rfl dM_stretch_28 ?_
      refine lv_iload_n (pc := 31) hx hb dM_stretch_31 rfl (lv_at hl 2 rfl) ?_
      obtain ⟨hg1, hM⟩ := gd_some hM
      refine x_ldI (pc := 32) C hW 6 rfl hg1 dM_stretch_32 ?_
      refine lv_bipush (pc := 33) (v := 16) hx hb dM_stretch_33 (by decide) ?_
      refine lv_ishr (pc := 35) hx hb dM_stretch_35 ?_
      refine lv_if_ne (pc := 36) (tgt := 42) hx hb dM_stretch_36 (by decide) (fun hc => ?_) (fun hc => ?_)
      · replace hM := it_f hc hM
        refine lv_aload_n (pc := 42) hx hb dM_stretch_42 rfl (lv_at hl 0 rfl) ?_
        refine lv_iconst (pc := 43) (v := 0) hx hb dM_stretch_43 (by decide) ?_
        refine pM (pc := 44) (ty := .boolean) C hW 33 23 (by decide) q_1690 rfl rfl (by decide +kernel) rfl rfl (st_grows dA h _ _) dM_stretch_44 (fun H locs hW => ?_)
        obtain ⟨σ2, eσ2, hM⟩ := bnd_some hM
        rw [← eσ2] at hW
        refine lv_aload_n (pc := 47) hx hb dM_stretch_47 rfl (lv_at hl 0 rfl) ?_
        refine lv_iload_n (pc := 48) hx hb dM_stretch_48 rfl (lv_at hl 2 rfl) ?_
        refine lv_iconst (pc := 49) (v := 1) hx hb dM_stretch_49 (by decide) ?_
        obtain ⟨r3, σ4, hr3, hM⟩ := cl_some hM
        refine x_callMv (pc := 50) C hW (kM_again l D dA h N x2 (1 : Int32) _ hr3) gM_again_709 ⟨rfl, by decide, by decide, by decide +kernel⟩ ⟨rfl, rfl⟩ ⟨by decide, by decide⟩ ⟨by decide, by decide⟩ (As := [.int x2, .int (1 : Int32)]) (n := 2) rfl hl.1 rfl (Nat.le_of_ble_eq_true rfl) dM_stretch_50 (fun H locs hW => ?_)
        refine lv_aload_n (pc := 53) hx hb dM_stretch_53 rfl (lv_at hl 0 rfl) ?_
        refine gM (pc := 54) C hW 33 (by decide) q_1690 rfl rfl dM_stretch_54 ?_
        refine lv_if_eq (pc := 57) (tgt := 72) hx hb dM_stretch_57 (by decide) (fun hc => ?_) (fun hc => ?_)
        · replace hM := it_t hc hM
          exact bM_stretch_72 N rec7 _ C hrec7 hrec19 _ _ _ hM _ _ hW _ (lv_sub hl [0, 1, 2] rfl)
        · replace hM := it_f hc hM
          refine lv_aload_n (pc := 60) hx hb dM_stretch_60 rfl (lv_at hl 0 rfl) ?_
          refine gM (pc := 61) C hW 10 (by decide) q_1667 rfl rfl dM_stretch_61 ?_
          refine lv_iload_n (pc := 64) hx hb dM_stretch_64 rfl (lv_at hl 2 rfl) ?_
          refine lv_dup2_11 (pc := 65) hx hb dM_stretch_65 rfl rfl ?_
          obtain ⟨hg5, hM⟩ := gd_some hM
          refine x_ldI (pc := 66) C hW 6 rfl hg5 dM_stretch_66 ?_
          refine lv_sipush (pc := 67) (v := 8192) hx hb dM_stretch_67 (by decide) ?_
          refine lv_iadd (pc := 70) hx hb dM_stretch_70 ?_
          obtain ⟨hg6, hM⟩ := gd_some hM
          refine x_stI (pc := 71) C hW 6 2 rfl hg6 (sa_place dA h _ _ _) dM_stretch_71 (fun H locs hW => ?_)
          obtain ⟨σ7, eσ7, hM⟩ := bnd_some hM
          rw [← eσ7] at hW
          exact bM_stretch_72 N rec7 _ C hrec7 hrec19 _ _ _ hM _ _ hW _ (lv_sub hl [0, 1, 2] rfl)
      · replace hM := it_t hc hM
        refine lv_goto (pc := 39) (tgt := 89) hx hb dM_stretch_39 (by decide) ?_
        exact bM_stretch_89 N rec7 _ C hrec7 hrec19 _ _ _ hM _ _ hW _ (lv_sub hl [0, 1, 2] rfl)
def M_stretch_7 (N : Nat)  : Nat → Int32 → MS → Option (Int32 × MS)
  | 0 => fun _ _ => none
  | n + 1 => fun x1 σ => (if x1 = 0 then some ((0 : Int32), σ) else cl (M_layout N σ) (fun r1 σ2 => M_stretch_19 N (M_stretch_7 N  n) N (0 : Int32) (0 : Int32) σ2))
set_option maxHeartbeats 4000000 in
set_option maxRecDepth 100000 in
theorem bM_stretch_7 (N : Nat)  {r : Int32} {σ' : MS} (C : CxM p s m args meth c cM_stretch 3 none D dA A) : ∀ (n : Nat) (x1 : Int32) (σ : MS), M_stretch_7 N  n x1 σ = some (r, σ') → ∀ (H : Heap) (locs : List Loc), WdM D dA h A s σ H locs → ∀ (ls : Array Slot), lv_has ls 3 [(0, .ref (h 0)), (1, .int x1)] → W p l e rm_stretch s m args below meth c H locs 0 0 (MQ below (QM D dA h A σ' none) args s 0 0 A) (F0 m 7 ls []) := by
  have hx := C.1.1
  have hb := C.1.2.1
  have hown := C.1.2.2.2.2.1
  have hT := C.1.2.2.2.2.2.1
  intro n
  induction n with
  | zero => intro x1 σ hM; cases hM
  | succ n hrec7 =>
    intro x1 σ hM H locs hW ls hl
    rw [M_stretch_7] at hM
    refine lv_iload_n (pc := 7) hx hb dM_stretch_7 rfl (lv_at hl 1 rfl) ?_
    refine lv_if_eq (pc := 8) (tgt := 119) hx hb dM_stretch_8 (by decide) (fun hc => ?_) (fun hc => ?_)
    · replace hM := it_t hc hM
      obtain ⟨rfl, rfl⟩ := sm_p hM
      exact x_retMv (pc := 119) C rfl hW dM_stretch_119
    · replace hM := it_f hc hM
      refine lv_iconst (pc := 11) (v := 0) hx hb dM_stretch_11 (by decide) ?_
      refine lv_istore_n (pc := 12) (lv' := [(1, .int (0 : Int32)), (0, .ref (h 0))]) hx hb dM_stretch_12 rfl hl (by decide) rfl (fun ls hl => ?_)
      refine lv_aload_n (pc := 13) hx hb dM_stretch_13 rfl (lv_at hl 1 rfl) ?_
      obtain ⟨r1, σ2, hr1, hM⟩ := cl_some hM
      refine x_callMv (pc := 14) C hW (kM_layout l D dA h N _ hr1) gM_layout_706 ⟨rfl, by decide, by decide, by decide +kernel⟩ ⟨rfl, rfl⟩ ⟨by decide, by decide⟩ ⟨by decide, by decide⟩ (As := []) (n := 0) rfl hl.1 rfl (Nat.le_of_ble_eq_true rfl) dM_stretch_14 (fun H locs hW => ?_)
      refine lv_iconst (pc := 17) (v := 0) hx hb dM_stretch_17 (by decide) ?_
      refine lv_istore_n (pc := 18) (lv' := [(2, .int (0 : Int32)), (1, .int (0 : Int32)), (0, .ref (h 0))]) hx hb dM_stretch_18 rfl hl (by decide) rfl (fun ls hl => ?_)
      exact bM_stretch_19 N _ C hrec7 N _ _ _ hM _ _ hW _ (lv_sub hl [2, 1, 0] rfl)
def M_stretch (N : Nat)  (σ : MS) : Option (Int32 × MS) :=
  bnd (sF σ 8 (0 : Int32)) (fun σ1 => M_stretch_7 N  N (1 : Int32) σ1)
set_option maxHeartbeats 4000000 in
set_option maxRecDepth 100000 in
theorem bM_stretch_0 (N : Nat)  {r : Int32} {σ' : MS} (C : CxM p s m args meth c cM_stretch 3 none D dA A)  (σ : MS) (hM : M_stretch N   σ = some (r, σ')) (H : Heap) (locs : List Loc) (hW : WdM D dA h A s σ H locs) (ls : Array Slot) (hl : lv_has ls 3 [(0, .ref (h 0))]) : W p l e rm_stretch s m args below meth c H locs 0 0 (MQ below (QM D dA h A σ' none) args s 0 0 A) (F0 m 0 ls []) := by
  have hx := C.1.1
  have hb := C.1.2.1
  have hown := C.1.2.2.2.2.1
  have hT := C.1.2.2.2.2.2.1
  unfold M_stretch at hM
  refine lv_aload_n (pc := 0) hx hb dM_stretch_0 rfl (lv_at hl 0 rfl) ?_
  refine lv_iconst (pc := 1) (v := 0) hx hb dM_stretch_1 (by decide) ?_
  refine pM (pc := 2) (ty := .int) C hW 18 8 (by decide) q_1675 rfl rfl (by decide +kernel) rfl rfl (st_rounds dA h _ _) dM_stretch_2 (fun H locs hW => ?_)
  obtain ⟨σ1, eσ1, hM⟩ := bnd_some hM
  rw [← eσ1] at hW
  refine lv_iconst (pc := 5) (v := 1) hx hb dM_stretch_5 (by decide) ?_
  refine lv_istore_n (pc := 6) (lv' := [(1, .int (1 : Int32)), (0, .ref (h 0))]) hx hb dM_stretch_6 rfl hl (by decide) rfl (fun ls hl => ?_)
  exact bM_stretch_7 N  C  N _ _ hM _ _ hW _ (lv_sub hl [1, 0] rfl)
theorem kM_stretch (l : Launch) (D : va_G) (dA : Nat → ClassId) (h : Nat → Nat) (N : Nat)  (σ : MS) {r : Int32} {σ' : MS} (hM : M_stretch N  σ = some (r, σ')) : KM l D dA yM_stretch cM_stretch 3 none rm_stretch h σ [] none σ' := x_enterM rfl (Nat.le_of_ble_eq_true rfl) (fun p e s m args below meth c A C hW ls hl => bM_stretch_0 N C  σ hM s.heap [] hW ls hl)
def M_assemble_152 (N : Nat) (t1 : Int32) (σ : MS) : Option (Int32 × MS) :=
  gd (isB t1) (bnd (sF σ 3 t1) (fun σ2 => some (σ2.1 14, σ2)))
set_option maxHeartbeats 4000000 in
set_option maxRecDepth 100000 in
theorem bM_assemble_152 (N : Nat)  {r : Int32} {σ' : MS} (C : CxM p s m args meth c cM_assemble 2 (some .int) D dA A) (t1 : Int32) (σ : MS) (hM : M_assemble_152 N  t1 σ = some (r, σ')) (H : Heap) (locs : List Loc) (hW : WdM D dA h A s σ H locs) (ls : Array Slot) (hl : lv_has ls 2 [(0, .ref (h 0))]) : W p l e rm_assemble s m args below meth c H locs 0 0 (MQ below (QM D dA h A σ' (some (.int r))) args s 0 0 A) (F0 m 152 ls [.int t1, .ref (h 0)]) := by
  have hx := C.1.1
  have hb := C.1.2.1
  have hown := C.1.2.2.2.2.1
  have hT := C.1.2.2.2.2.2.1
  unfold M_assemble_152 at hM
  obtain ⟨hg1, hM⟩ := gd_some hM
  refine pM (pc := 152) (ty := .boolean) C hW 8 3 (by decide) q_1665 rfl rfl (by decide +kernel) (isB_n hg1) (isB_f hg1) (st_there dA h _ _) dM_assemble_152 (fun H locs hW => ?_)
  obtain ⟨σ2, eσ2, hM⟩ := bnd_some hM
  rw [← eσ2] at hW
  refine lv_aload_n (pc := 155) hx hb dM_assemble_155 rfl (lv_at hl 0 rfl) ?_
  refine gM (pc := 156) C hW 24 (by decide) q_1681 rfl rfl dM_assemble_156 ?_
  obtain ⟨rfl, rfl⟩ := sm_p hM
  exact x_retMi (pc := 159) C rfl hW dM_assemble_159
def M_assemble_139 (N : Nat)  (σ : MS) : Option (Int32 × MS) :=
  (if (σ.1 14) = 0 then M_assemble_152 N  (1 : Int32) σ else M_assemble_152 N  (0 : Int32) σ)
set_option maxHeartbeats 4000000 in
set_option maxRecDepth 100000 in
theorem bM_assemble_139 (N : Nat)  {r : Int32} {σ' : MS} (C : CxM p s m args meth c cM_assemble 2 (some .int) D dA A)  (σ : MS) (hM : M_assemble_139 N   σ = some (r, σ')) (H : Heap) (locs : List Loc) (hW : WdM D dA h A s σ H locs) (ls : Array Slot) (hl : lv_has ls 2 [(0, .ref (h 0))]) : W p l e rm_assemble s m args below meth c H locs 0 0 (MQ below (QM D dA h A σ' (some (.int r))) args s 0 0 A) (F0 m 139 ls []) := by
  have hx := C.1.1
  have hb := C.1.2.1
  have hown := C.1.2.2.2.2.1
  have hT := C.1.2.2.2.2.2.1
  unfold M_assemble_139 at hM
  refine lv_aload_n (pc := 139) hx hb dM_assemble_139 rfl (lv_at hl 0 rfl) ?_
  refine lv_aload_n (pc := 140) hx hb dM_assemble_140 rfl (lv_at hl 0 rfl) ?_
  refine gM (pc := 141) C hW 24 (by decide) q_1681 rfl rfl dM_assemble_141 ?_
  refine lv_if_ne (pc := 144) (tgt := 151) hx hb dM_assemble_144 (by decide) (fun hc => ?_) (fun hc => ?_)
  · replace hM := it_f hc hM
    refine lv_iconst (pc := 151) (v := 0) hx hb dM_assemble_151 (by decide) ?_
    exact bM_assemble_152 N  C  _ _ hM _ _ hW _ (lv_sub hl [0] rfl)
  · replace hM := it_t hc hM
    refine lv_iconst (pc := 147) (v := 1) hx hb dM_assemble_147 (by decide) ?_
    refine lv_goto (pc := 148) (tgt := 152) hx hb dM_assemble_148 (by decide) ?_
    exact bM_assemble_152 N  C  _ _ hM _ _ hW _ (lv_sub hl [0] rfl)
def M_assemble_94 (N : Nat)  : Nat → Int32 → MS → Option (Int32 × MS)
  | 0 => fun _ _ => none
  | n + 1 => fun x1 σ => (if (σ.1 4) ≤ x1 then M_assemble_139 N  σ else (if (σ.1 14) = 0 then gd (inB x1 1030) (cr (M_lineOf N ((σ.2 2 x1.toNatClampNeg) &&& (8191 : Int32)) σ) (fun r2 => bnd (sF σ 15 r2) (fun σ3 => cl (M_again N x1 (2 : Int32) σ3) (fun r4 σ5 => (M_assemble_94 N  n) (x1 + (1 : Int32)) σ5)))) else M_assemble_139 N  σ))
set_option maxHeartbeats 4000000 in
set_option maxRecDepth 100000 in
theorem bM_assemble_94 (N : Nat)  {r : Int32} {σ' : MS} (C : CxM p s m args meth c cM_assemble 2 (some .int) D dA A) : ∀ (n : Nat) (x1 : Int32) (σ : MS), M_assemble_94 N  n x1 σ = some (r, σ') → ∀ (H : Heap) (locs : List Loc), WdM D dA h A s σ H locs → ∀ (ls : Array Slot), lv_has ls 2 [(0, .ref (h 0)), (1, .int x1)] → W p l e rm_assemble s m args below meth c H locs 0 0 (MQ below (QM D dA h A σ' (some (.int r))) args s 0 0 A) (F0 m 94 ls []) := by
  have hx := C.1.1
  have hb := C.1.2.1
  have hown := C.1.2.2.2.2.1
  have hT := C.1.2.2.2.2.2.1
  intro n
  induction n with
  | zero => intro x1 σ hM; cases hM
  | succ n hrec94 =>
    intro x1 σ hM H locs hW ls hl
    rw [M_assemble_94] at hM
    refine lv_iload_n (pc := 94) hx hb dM_assemble_94 rfl (lv_at hl 1 rfl) ?_
    refine lv_aload_n (pc := 95) hx hb dM_assemble_95 rfl (lv_at hl 0 rfl) ?_
    refine gM (pc := 96) C hW 9 (by decide) q_1666 rfl rfl dM_assemble_96 ?_
    refine lv_icmp_ge (pc := 99) (tgt := 139) hx hb dM_assemble_99 (by decide) (fun hc => ?_) (fun hc => ?_)
    · replace hM := it_t hc hM
      exact bM_assemble_139 N  C   _ hM _ _ hW _ (lv_sub hl [0] rfl)
    · replace hM := it_f hc hM
      refine lv_aload_n (pc := 102) hx hb dM_assemble_102 rfl (lv_at hl 0 rfl) ?_
      refine gM (pc := 103) C hW 24 (by decide) q_1681 rfl rfl dM_assemble_103 ?_
      refine lv_if_ne (pc := 106) (tgt := 139) hx hb dM_assemble_106 (by decide) (fun hc => ?_) (fun hc => ?_)
      · replace hM := it_f hc hM
        exact bM_assemble_139 N  C   _ hM _ _ hW _ (lv_sub hl [0] rfl)
      · replace hM := it_t hc hM
        refine lv_aload_n (pc := 109) hx hb dM_assemble_109 rfl (lv_at hl 0 rfl) ?_
        refine lv_aload_n (pc := 110) hx hb dM_assemble_110 rfl (lv_at hl 0 rfl) ?_
        refine lv_aload_n (pc := 111) hx hb dM_assemble_111 rfl (lv_at hl 0 rfl) ?_
        refine gM (pc := 112) C hW 10 (by decide) q_1667 rfl rfl dM_assemble_112 ?_
        refine lv_iload_n (pc := 115) hx hb dM_assemble_115 rfl (lv_at hl 1 rfl) ?_
        obtain ⟨hg1, hM⟩ := gd_some hM
        refine x_ldI (pc := 116) C hW 6 rfl hg1 dM_assemble_116 ?_
        refine lv_sipush (pc := 117) (v := 8191) hx hb dM_assemble_117 (by decide) ?_
        refine lv_iand (pc := 120) hx hb dM_assemble_120 ?_
        obtain ⟨r2, hr2, hM⟩ := cr_some hM
        refine x_callRi (pc := 121) C hW (kM_lineOf l D dA h N ((σ.2 2 x1.toNatClampNeg) &&& (8191 : Int32)) _ hr2) gM_lineOf_724 ⟨rfl, by decide, by decide, by decide +kernel⟩ ⟨rfl, rfl⟩ ⟨by decide, by decide⟩ ⟨by decide, by decide⟩ (As := [.int ((σ.2 2 x1.toNatClampNeg) &&& (8191 : Int32))]) (n := 1) rfl hl.1 rfl (Nat.le_of_ble_eq_true rfl) dM_assemble_121 ?_
        refine pM (pc := 124) (ty := .int) C hW 25 15 (by decide) q_1682 rfl rfl (by decide +kernel) rfl rfl (st_line dA h _ _) dM_assemble_124 (fun H locs hW => ?_)
        obtain ⟨σ3, eσ3, hM⟩ := bnd_some hM
        rw [← eσ3] at hW
        refine lv_aload_n (pc := 127) hx hb dM_assemble_127 rfl (lv_at hl 0 rfl) ?_
        refine lv_iload_n (pc := 128) hx hb dM_assemble_128 rfl (lv_at hl 1 rfl) ?_
        refine lv_iconst (pc := 129) (v := 2) hx hb dM_assemble_129 (by decide) ?_
        obtain ⟨r4, σ5, hr4, hM⟩ := cl_some hM
        refine x_callMv (pc := 130) C hW (kM_again l D dA h N x1 (2 : Int32) _ hr4) gM_again_709 ⟨rfl, by decide, by decide, by decide +kernel⟩ ⟨rfl, rfl⟩ ⟨by decide, by decide⟩ ⟨by decide, by decide⟩ (As := [.int x1, .int (2 : Int32)]) (n := 2) rfl hl.1 rfl (Nat.le_of_ble_eq_true rfl) dM_assemble_130 (fun H locs hW => ?_)
        refine lv_iinc (pc := 133) (v := x1 + (1 : Int32)) (lv' := [(1, .int (x1 + (1 : Int32))), (0, .ref (h 0))]) hx hb dM_assemble_133 hl (k := 1) rfl rfl (by decide) rfl (fun ls hl => ?_)
        refine lv_goto (pc := 136) (tgt := 94) hx hb dM_assemble_136 (by decide) ?_
        exact hrec94 _ _ hM _ _ hW _ (lv_sub hl [1, 0] rfl)
def M_assemble_92 (N : Nat)  (σ : MS) : Option (Int32 × MS) :=
  M_assemble_94 N  N (0 : Int32) σ
set_option maxHeartbeats 4000000 in
set_option maxRecDepth 100000 in
theorem bM_assemble_92 (N : Nat)  {r : Int32} {σ' : MS} (C : CxM p s m args meth c cM_assemble 2 (some .int) D dA A)  (σ : MS) (hM : M_assemble_92 N   σ = some (r, σ')) (H : Heap) (locs : List Loc) (hW : WdM D dA h A s σ H locs) (ls : Array Slot) (hl : lv_has ls 2 [(0, .ref (h 0))]) : W p l e rm_assemble s m args below meth c H locs 0 0 (MQ below (QM D dA h A σ' (some (.int r))) args s 0 0 A) (F0 m 92 ls []) := by
  have hx := C.1.1
  have hb := C.1.2.1
  have hown := C.1.2.2.2.2.1
  have hT := C.1.2.2.2.2.2.1
  unfold M_assemble_92 at hM
  refine lv_iconst (pc := 92) (v := 0) hx hb dM_assemble_92 (by decide) ?_
  refine lv_istore_n (pc := 93) (lv' := [(1, .int (0 : Int32)), (0, .ref (h 0))]) hx hb dM_assemble_93 rfl hl (by decide) rfl (fun ls hl => ?_)
  exact bM_assemble_94 N  C  N _ _ hM _ _ hW _ (lv_sub hl [1, 0] rfl)
def M_assemble_15 (N : Nat)  : Nat → Int32 → MS → Option (Int32 × MS)
  | 0 => fun _ _ => none
  | n + 1 => fun x1 σ => (if (σ.1 2) ≤ x1 then bnd (sF σ 14 (0 : Int32)) (fun σ1 => bnd (sF σ1 3 (0 : Int32)) (fun σ2 => cl (M_readAll N σ2) (fun r3 σ4 => (if (σ4.1 14) ≤ 0 then cl (M_stretch N σ4) (fun r5 σ6 => bnd (sF σ6 3 (1 : Int32)) (fun σ7 => cr (M_all  σ7) (fun r8 => (if r8 ≤ (32768 : Int32) then M_assemble_92 N  σ7 else bnd (sF σ7 14 (7 : Int32)) (fun σ9 => M_assemble_92 N  σ9))))) else some (σ4.1 14, σ4))))) else gd (inB x1 4100) (gd (inB x1 4100) (bnd (sA σ 1 x1.toNatClampNeg (vp_nar .char (σ.2 0 x1.toNatClampNeg))) (fun σ12 => (M_assemble_15 N  n) (x1 + (1 : Int32)) σ12))))
set_option maxHeartbeats 4000000 in
set_option maxRecDepth 100000 in
theorem bM_assemble_15 (N : Nat)  {r : Int32} {σ' : MS} (C : CxM p s m args meth c cM_assemble 2 (some .int) D dA A) : ∀ (n : Nat) (x1 : Int32) (σ : MS), M_assemble_15 N  n x1 σ = some (r, σ') → ∀ (H : Heap) (locs : List Loc), WdM D dA h A s σ H locs → ∀ (ls : Array Slot), lv_has ls 2 [(0, .ref (h 0)), (1, .int x1)] → W p l e rm_assemble s m args below meth c H locs 0 0 (MQ below (QM D dA h A σ' (some (.int r))) args s 0 0 A) (F0 m 15 ls []) := by
  have hx := C.1.1
  have hb := C.1.2.1
  have hown := C.1.2.2.2.2.1
  have hT := C.1.2.2.2.2.2.1
  intro n
  induction n with
  | zero => intro x1 σ hM; cases hM
  | succ n hrec15 =>
    intro x1 σ hM H locs hW ls hl
    rw [M_assemble_15] at hM
    refine lv_iload_n (pc := 15) hx hb dM_assemble_15 rfl (lv_at hl 1 rfl) ?_
    refine lv_aload_n (pc := 16) hx hb dM_assemble_16 rfl (lv_at hl 0 rfl) ?_
    refine gM (pc := 17) C hW 7 (by decide) q_1664 rfl rfl dM_assemble_17 ?_
    refine lv_icmp_ge (pc := 20) (tgt := 41) hx hb dM_assemble_20 (by decide) (fun hc => ?_) (fun hc => ?_)
    · replace hM := it_t hc hM
      refine lv_aload_n (pc := 41) hx hb dM_assemble_41 rfl (lv_at hl 0 rfl) ?_
      refine lv_iconst (pc := 42) (v := 0) hx hb dM_assemble_42 (by decide) ?_
      refine pM (pc := 43) (ty := .int) C hW 24 14 (by decide) q_1681 rfl rfl (by decide +kernel) rfl rfl (st_fault dA h _ _) dM_assemble_43 (fun H locs hW => ?_)
      obtain ⟨σ1, eσ1, hM⟩ := bnd_some hM
      rw [← eσ1] at hW
      refine lv_aload_n (pc := 46) hx hb dM_assemble_46 rfl (lv_at hl 0 rfl) ?_
      refine lv_iconst (pc := 47) (v := 0) hx hb dM_assemble_47 (by decide) ?_
      refine pM (pc := 48) (ty := .boolean) C hW 8 3 (by decide) q_1665 rfl rfl (by decide +kernel) rfl rfl (st_there dA h _ _) dM_assemble_48 (fun H locs hW => ?_)
      obtain ⟨σ2, eσ2, hM⟩ := bnd_some hM
      rw [← eσ2] at hW
      refine lv_aload_n (pc := 51) hx hb dM_assemble_51 rfl (lv_at hl 0 rfl) ?_
      obtain ⟨r3, σ4, hr3, hM⟩ := cl_some hM
      refine x_callMv (pc := 52) C hW (kM_readAll l D dA h N _ hr3) gM_readAll_715 ⟨rfl, by decide, by decide, by decide +kernel⟩ ⟨rfl, rfl⟩ ⟨by decide, by decide⟩ ⟨by decide, by decide⟩ (As := []) (n := 0) rfl hl.1 rfl (Nat.le_of_ble_eq_true rfl) dM_assemble_52 (fun H locs hW => ?_)
      refine lv_aload_n (pc := 55) hx hb dM_assemble_55 rfl (lv_at hl 0 rfl) ?_
      refine gM (pc := 56) C hW 24 (by decide) q_1681 rfl rfl dM_assemble_56 ?_
      refine lv_if_le (pc := 59) (tgt := 67) hx hb dM_assemble_59 (by decide) (fun hc => ?_) (fun hc => ?_)
      · replace hM := it_t hc hM
        refine lv_aload_n (pc := 67) hx hb dM_assemble_67 rfl (lv_at hl 0 rfl) ?_
        obtain ⟨r5, σ6, hr5, hM⟩ := cl_some hM
        refine x_callMv (pc := 68) C hW (kM_stretch l D dA h N _ hr5) gM_stretch_718 ⟨rfl, by decide, by decide, by decide +kernel⟩ ⟨rfl, rfl⟩ ⟨by decide, by decide⟩ ⟨by decide, by decide⟩ (As := []) (n := 0) rfl hl.1 rfl (Nat.le_of_ble_eq_true rfl) dM_assemble_68 (fun H locs hW => ?_)
        refine lv_aload_n (pc := 71) hx hb dM_assemble_71 rfl (lv_at hl 0 rfl) ?_
        refine lv_iconst (pc := 72) (v := 1) hx hb dM_assemble_72 (by decide) ?_
        refine pM (pc := 73) (ty := .boolean) C hW 8 3 (by decide) q_1665 rfl rfl (by decide +kernel) rfl rfl (st_there dA h _ _) dM_assemble_73 (fun H locs hW => ?_)
        obtain ⟨σ7, eσ7, hM⟩ := bnd_some hM
        rw [← eσ7] at hW
        refine lv_aload_n (pc := 76) hx hb dM_assemble_76 rfl (lv_at hl 0 rfl) ?_
        obtain ⟨r8, hr8, hM⟩ := cr_some hM
        refine x_callRi (pc := 77) C hW (kM_all l D dA h  _ hr8) gM_all_721 ⟨rfl, by decide, by decide, by decide +kernel⟩ ⟨rfl, rfl⟩ ⟨by decide, by decide⟩ ⟨by decide, by decide⟩ (As := []) (n := 0) rfl hl.1 rfl (Nat.le_of_ble_eq_true rfl) dM_assemble_77 ?_
        refine lv_ldcw (pc := 80) (v := 32768) hx hb hown (hT _ q_1972) dM_assemble_80 ?_
        refine lv_icmp_le (pc := 83) (tgt := 92) hx hb dM_assemble_83 (by decide) (fun hc => ?_) (fun hc => ?_)
        · replace hM := it_t hc hM
          exact bM_assemble_92 N  C   _ hM _ _ hW _ (lv_sub hl [0] rfl)
        · replace hM := it_f hc hM
          refine lv_aload_n (pc := 86) hx hb dM_assemble_86 rfl (lv_at hl 0 rfl) ?_
          refine lv_bipush (pc := 87) (v := 7) hx hb dM_assemble_87 (by decide) ?_
          refine pM (pc := 89) (ty := .int) C hW 24 14 (by decide) q_1681 rfl rfl (by decide +kernel) rfl rfl (st_fault dA h _ _) dM_assemble_89 (fun H locs hW => ?_)
          obtain ⟨σ9, eσ9, hM⟩ := bnd_some hM
          rw [← eσ9] at hW
          exact bM_assemble_92 N  C   _ hM _ _ hW _ (lv_sub hl [0] rfl)
      · replace hM := it_f hc hM
        refine lv_aload_n (pc := 62) hx hb dM_assemble_62 rfl (lv_at hl 0 rfl) ?_
        refine gM (pc := 63) C hW 24 (by decide) q_1681 rfl rfl dM_assemble_63 ?_
        obtain ⟨rfl, rfl⟩ := sm_p hM
        exact x_retMi (pc := 66) C rfl hW dM_assemble_66
    · replace hM := it_f hc hM
      refine lv_aload_n (pc := 23) hx hb dM_assemble_23 rfl (lv_at hl 0 rfl) ?_
      refine gM (pc := 24) C hW 6 (by decide) q_1663 rfl rfl dM_assemble_24 ?_
      refine lv_iload_n (pc := 27) hx hb dM_assemble_27 rfl (lv_at hl 1 rfl) ?_
      refine lv_aload_n (pc := 28) hx hb dM_assemble_28 rfl (lv_at hl 0 rfl) ?_
      refine gM (pc := 29) C hW 4 (by decide) q_1661 rfl rfl dM_assemble_29 ?_
      refine lv_iload_n (pc := 32) hx hb dM_assemble_32 rfl (lv_at hl 1 rfl) ?_
      obtain ⟨hg10, hM⟩ := gd_some hM
      refine x_ldC (pc := 33) C hW 4 rfl hg10 dM_assemble_33 ?_
      obtain ⟨hg11, hM⟩ := gd_some hM
      refine x_stC (pc := 34) C hW 5 1 rfl hg11 (sa_text dA h _ _ _) dM_assemble_34 (fun H locs hW => ?_)
      obtain ⟨σ12, eσ12, hM⟩ := bnd_some hM
      rw [← eσ12] at hW
      refine lv_iinc (pc := 35) (v := x1 + (1 : Int32)) (lv' := [(1, .int (x1 + (1 : Int32))), (0, .ref (h 0))]) hx hb dM_assemble_35 hl (k := 1) rfl rfl (by decide) rfl (fun ls hl => ?_)
      refine lv_goto (pc := 38) (tgt := 15) hx hb dM_assemble_38 (by decide) ?_
      exact hrec15 _ _ hM _ _ hW _ (lv_sub hl [1, 0] rfl)
def M_assemble (N : Nat)  (σ : MS) : Option (Int32 × MS) :=
  bnd (sF σ 0 (0 : Int32)) (fun σ1 => bnd (sF σ1 2 (σ1.1 1)) (fun σ2 => M_assemble_15 N  N (0 : Int32) σ2))
set_option maxHeartbeats 4000000 in
set_option maxRecDepth 100000 in
theorem bM_assemble_0 (N : Nat)  {r : Int32} {σ' : MS} (C : CxM p s m args meth c cM_assemble 2 (some .int) D dA A)  (σ : MS) (hM : M_assemble N   σ = some (r, σ')) (H : Heap) (locs : List Loc) (hW : WdM D dA h A s σ H locs) (ls : Array Slot) (hl : lv_has ls 2 [(0, .ref (h 0))]) : W p l e rm_assemble s m args below meth c H locs 0 0 (MQ below (QM D dA h A σ' (some (.int r))) args s 0 0 A) (F0 m 0 ls []) := by
  have hx := C.1.1
  have hb := C.1.2.1
  have hown := C.1.2.2.2.2.1
  have hT := C.1.2.2.2.2.2.1
  unfold M_assemble at hM
  refine lv_aload_n (pc := 0) hx hb dM_assemble_0 rfl (lv_at hl 0 rfl) ?_
  refine lv_iconst (pc := 1) (v := 0) hx hb dM_assemble_1 (by decide) ?_
  refine pM (pc := 2) (ty := .int) C hW 3 0 (by decide) q_1660 rfl rfl (by decide +kernel) rfl rfl (st_thrown dA h _ _) dM_assemble_2 (fun H locs hW => ?_)
  obtain ⟨σ1, eσ1, hM⟩ := bnd_some hM
  rw [← eσ1] at hW
  refine lv_aload_n (pc := 5) hx hb dM_assemble_5 rfl (lv_at hl 0 rfl) ?_
  refine lv_aload_n (pc := 6) hx hb dM_assemble_6 rfl (lv_at hl 0 rfl) ?_
  refine gM (pc := 7) C hW 5 (by decide) q_1662 rfl rfl dM_assemble_7 ?_
  refine pM (pc := 10) (ty := .int) C hW 7 2 (by decide) q_1664 rfl rfl (by decide +kernel) rfl rfl (st_size dA h _ _) dM_assemble_10 (fun H locs hW => ?_)
  obtain ⟨σ2, eσ2, hM⟩ := bnd_some hM
  rw [← eσ2] at hW
  refine lv_iconst (pc := 13) (v := 0) hx hb dM_assemble_13 (by decide) ?_
  refine lv_istore_n (pc := 14) (lv' := [(1, .int (0 : Int32)), (0, .ref (h 0))]) hx hb dM_assemble_14 rfl hl (by decide) rfl (fun ls hl => ?_)
  exact bM_assemble_15 N  C  N _ _ hM _ _ hW _ (lv_sub hl [1, 0] rfl)
theorem kM_assemble (l : Launch) (D : va_G) (dA : Nat → ClassId) (h : Nat → Nat) (N : Nat)  (σ : MS) {r : Int32} {σ' : MS} (hM : M_assemble N  σ = some (r, σ')) : KM l D dA yM_assemble cM_assemble 2 (some .int) rm_assemble h σ [] (some (.int r)) σ' := x_enterM rfl (Nat.le_of_ble_eq_true rfl) (fun p e s m args below meth c A C hW ls hl => bM_assemble_0 N C  σ hM s.heap [] hW ls hl)
def M_labelsOf_59 (N : Nat) (rec4 : Int32 → Int32 → Int32 → MS → Option Int32) (x1 : Int32) (x3 : Int32) (t0 : Int32) (σ : MS) : Option Int32 :=
  rec4 x1 t0 (x3 + (1 : Int32)) σ
set_option maxHeartbeats 4000000 in
set_option maxRecDepth 100000 in
theorem bM_labelsOf_59 (N : Nat) (rec4 : Int32 → Int32 → Int32 → MS → Option Int32) {r : Int32} (C : CxM p s m args meth c cM_labelsOf 4 (some .int) D dA A) (hrec4 : ∀ (x1 : Int32) (x2 : Int32) (x3 : Int32) (σ : MS), rec4 x1 x2 x3 σ = some r → WdM D dA h A s σ s.heap [] → ∀ (ls : Array Slot), lv_has ls 4 [(0, .ref (h 0)), (1, .int x1), (2, .int x2), (3, .int x3)] → W p l e rm_labelsOf s m args below meth c s.heap [] 0 0 (MQ below (QS (some (.int r))) args s 0 0 (fun _ => False)) (F0 m 4 ls [])) (x1 : Int32) (x3 : Int32) (t0 : Int32) (σ : MS) (hM : M_labelsOf_59 N rec4 x1 x3 t0 σ = some r) (hW : WdM D dA h A s σ s.heap []) (ls : Array Slot) (hl : lv_has ls 4 [(0, .ref (h 0)), (1, .int x1), (3, .int x3)]) : W p l e rm_labelsOf s m args below meth c s.heap [] 0 0 (MQ below (QS (some (.int r))) args s 0 0 (fun _ => False)) (F0 m 59 ls [.int t0]) := by
  have hx := C.1.1
  have hb := C.1.2.1
  have hown := C.1.2.2.2.2.1
  have hT := C.1.2.2.2.2.2.1
  unfold M_labelsOf_59 at hM
  refine lv_istore_n (pc := 59) (lv' := [(2, .int t0), (0, .ref (h 0)), (1, .int x1), (3, .int x3)]) hx hb dM_labelsOf_59 rfl hl (by decide) rfl (fun ls hl => ?_)
  refine lv_iinc (pc := 60) (v := x3 + (1 : Int32)) (lv' := [(3, .int (x3 + (1 : Int32))), (2, .int t0), (0, .ref (h 0)), (1, .int x1)]) hx hb dM_labelsOf_60 hl (k := 3) rfl rfl (by decide) rfl (fun ls hl => ?_)
  refine lv_goto (pc := 63) (tgt := 4) hx hb dM_labelsOf_63 (by decide) ?_
  exact hrec4 _ _ _ _ hM hW _ (lv_sub hl [2, 3, 1, 0] rfl)
def M_labelsOf_4 (N : Nat)  : Nat → Int32 → Int32 → Int32 → MS → Option Int32
  | 0 => fun _ _ _ _ => none
  | n + 1 => fun x1 x2 x3 σ => (if (σ.1 5) ≤ x3 then some x2 else (if x1 = 0 then gd (inB x3 2060) ((if (2 : Int32) ≤ ((σ.2 5 x3.toNatClampNeg) >>> ((13 : Int32) &&& 31)) then M_labelsOf_59 N (M_labelsOf_4 N  n) x1 x3 x2 σ else M_labelsOf_59 N (M_labelsOf_4 N  n) x1 x3 (x2 + (1 : Int32)) σ)) else gd (inB x3 2060) ((if ((σ.2 5 x3.toNatClampNeg) >>> ((13 : Int32) &&& 31)) = (2 : Int32) then M_labelsOf_59 N (M_labelsOf_4 N  n) x1 x3 (x2 + (1 : Int32)) σ else M_labelsOf_59 N (M_labelsOf_4 N  n) x1 x3 x2 σ))))
set_option maxHeartbeats 4000000 in
set_option maxRecDepth 100000 in
theorem bM_labelsOf_4 (N : Nat)  {r : Int32} (C : CxM p s m args meth c cM_labelsOf 4 (some .int) D dA A) : ∀ (n : Nat) (x1 : Int32) (x2 : Int32) (x3 : Int32) (σ : MS), M_labelsOf_4 N  n x1 x2 x3 σ = some r → WdM D dA h A s σ s.heap [] → ∀ (ls : Array Slot), lv_has ls 4 [(0, .ref (h 0)), (1, .int x1), (2, .int x2), (3, .int x3)] → W p l e rm_labelsOf s m args below meth c s.heap [] 0 0 (MQ below (QS (some (.int r))) args s 0 0 (fun _ => False)) (F0 m 4 ls []) := by
  have hx := C.1.1
  have hb := C.1.2.1
  have hown := C.1.2.2.2.2.1
  have hT := C.1.2.2.2.2.2.1
  intro n
  induction n with
  | zero => intro x1 x2 x3 σ hM; cases hM
  | succ n hrec4 =>
    intro x1 x2 x3 σ hM hW ls hl
    rw [M_labelsOf_4] at hM
    refine lv_iload_n (pc := 4) hx hb dM_labelsOf_4 rfl (lv_at hl 3 rfl) ?_
    refine lv_aload_n (pc := 5) hx hb dM_labelsOf_5 rfl (lv_at hl 0 rfl) ?_
    refine gM (pc := 6) C hW 13 (by decide) q_1670 rfl rfl dM_labelsOf_6 ?_
    refine lv_icmp_ge (pc := 9) (tgt := 66) hx hb dM_labelsOf_9 (by decide) (fun hc => ?_) (fun hc => ?_)
    · replace hM := it_t hc hM
      refine lv_iload_n (pc := 66) hx hb dM_labelsOf_66 rfl (lv_at hl 2 rfl) ?_
      obtain rfl := sm_i hM
      exact x_retS (pc := 67) C.1 rfl dM_labelsOf_67
    · replace hM := it_f hc hM
      refine lv_iload_n (pc := 12) hx hb dM_labelsOf_12 rfl (lv_at hl 1 rfl) ?_
      refine lv_if_eq (pc := 13) (tgt := 39) hx hb dM_labelsOf_13 (by decide) (fun hc => ?_) (fun hc => ?_)
      · replace hM := it_t hc hM
        refine lv_aload_n (pc := 39) hx hb dM_labelsOf_39 rfl (lv_at hl 0 rfl) ?_
        refine gM (pc := 40) C hW 14 (by decide) q_1671 rfl rfl dM_labelsOf_40 ?_
        refine lv_iload_n (pc := 43) hx hb dM_labelsOf_43 rfl (lv_at hl 3 rfl) ?_
        obtain ⟨hg1, hM⟩ := gd_some hM
        refine x_ldI (pc := 44) C hW 9 rfl hg1 dM_labelsOf_44 ?_
        refine lv_bipush (pc := 45) (v := 13) hx hb dM_labelsOf_45 (by decide) ?_
        refine lv_ishr (pc := 47) hx hb dM_labelsOf_47 ?_
        refine lv_iconst (pc := 48) (v := 2) hx hb dM_labelsOf_48 (by decide) ?_
        refine lv_icmp_ge (pc := 49) (tgt := 58) hx hb dM_labelsOf_49 (by decide) (fun hc => ?_) (fun hc => ?_)
        · replace hM := it_t hc hM
          refine lv_iload_n (pc := 58) hx hb dM_labelsOf_58 rfl (lv_at hl 2 rfl) ?_
          exact bM_labelsOf_59 N _ C hrec4 _ _ _ _ hM hW _ (lv_sub hl [0, 1, 3] rfl)
        · replace hM := it_f hc hM
          refine lv_iload_n (pc := 52) hx hb dM_labelsOf_52 rfl (lv_at hl 2 rfl) ?_
          refine lv_iconst (pc := 53) (v := 1) hx hb dM_labelsOf_53 (by decide) ?_
          refine lv_iadd (pc := 54) hx hb dM_labelsOf_54 ?_
          refine lv_goto (pc := 55) (tgt := 59) hx hb dM_labelsOf_55 (by decide) ?_
          exact bM_labelsOf_59 N _ C hrec4 _ _ _ _ hM hW _ (lv_sub hl [0, 1, 3] rfl)
      · replace hM := it_f hc hM
        refine lv_aload_n (pc := 16) hx hb dM_labelsOf_16 rfl (lv_at hl 0 rfl) ?_
        refine gM (pc := 17) C hW 14 (by decide) q_1671 rfl rfl dM_labelsOf_17 ?_
        refine lv_iload_n (pc := 20) hx hb dM_labelsOf_20 rfl (lv_at hl 3 rfl) ?_
        obtain ⟨hg2, hM⟩ := gd_some hM
        refine x_ldI (pc := 21) C hW 9 rfl hg2 dM_labelsOf_21 ?_
        refine lv_bipush (pc := 22) (v := 13) hx hb dM_labelsOf_22 (by decide) ?_
        refine lv_ishr (pc := 24) hx hb dM_labelsOf_24 ?_
        refine lv_iconst (pc := 25) (v := 2) hx hb dM_labelsOf_25 (by decide) ?_
        refine lv_icmp_ne (pc := 26) (tgt := 35) hx hb dM_labelsOf_26 (by decide) (fun hc => ?_) (fun hc => ?_)
        · replace hM := it_f hc hM
          refine lv_iload_n (pc := 35) hx hb dM_labelsOf_35 rfl (lv_at hl 2 rfl) ?_
          refine lv_goto (pc := 36) (tgt := 59) hx hb dM_labelsOf_36 (by decide) ?_
          exact bM_labelsOf_59 N _ C hrec4 _ _ _ _ hM hW _ (lv_sub hl [0, 1, 3] rfl)
        · replace hM := it_t hc hM
          refine lv_iload_n (pc := 29) hx hb dM_labelsOf_29 rfl (lv_at hl 2 rfl) ?_
          refine lv_iconst (pc := 30) (v := 1) hx hb dM_labelsOf_30 (by decide) ?_
          refine lv_iadd (pc := 31) hx hb dM_labelsOf_31 ?_
          refine lv_goto (pc := 32) (tgt := 59) hx hb dM_labelsOf_32 (by decide) ?_
          exact bM_labelsOf_59 N _ C hrec4 _ _ _ _ hM hW _ (lv_sub hl [0, 1, 3] rfl)
def M_labelsOf (N : Nat) (x1 : Int32) (σ : MS) : Option Int32 :=
  M_labelsOf_4 N  N x1 (0 : Int32) (0 : Int32) σ
set_option maxHeartbeats 4000000 in
set_option maxRecDepth 100000 in
theorem bM_labelsOf_0 (N : Nat)  {r : Int32} (C : CxM p s m args meth c cM_labelsOf 4 (some .int) D dA A) (x1 : Int32) (σ : MS) (hM : M_labelsOf N  x1 σ = some r) (hW : WdM D dA h A s σ s.heap []) (ls : Array Slot) (hl : lv_has ls 4 [(0, .ref (h 0)), (1, .int x1)]) : W p l e rm_labelsOf s m args below meth c s.heap [] 0 0 (MQ below (QS (some (.int r))) args s 0 0 (fun _ => False)) (F0 m 0 ls []) := by
  have hx := C.1.1
  have hb := C.1.2.1
  have hown := C.1.2.2.2.2.1
  have hT := C.1.2.2.2.2.2.1
  unfold M_labelsOf at hM
  refine lv_iconst (pc := 0) (v := 0) hx hb dM_labelsOf_0 (by decide) ?_
  refine lv_istore_n (pc := 1) (lv' := [(2, .int (0 : Int32)), (0, .ref (h 0)), (1, .int x1)]) hx hb dM_labelsOf_1 rfl hl (by decide) rfl (fun ls hl => ?_)
  refine lv_iconst (pc := 2) (v := 0) hx hb dM_labelsOf_2 (by decide) ?_
  refine lv_istore_n (pc := 3) (lv' := [(3, .int (0 : Int32)), (2, .int (0 : Int32)), (0, .ref (h 0)), (1, .int x1)]) hx hb dM_labelsOf_3 rfl hl (by decide) rfl (fun ls hl => ?_)
  exact bM_labelsOf_4 N  C  N _ _ _ _ hM hW _ (lv_sub hl [2, 3, 1, 0] rfl)
theorem kM_labelsOf (l : Launch) (D : va_G) (dA : Nat → ClassId) (h : Nat → Nat) (N : Nat) (x1 : Int32) (σ : MS) {r : Int32} (hM : M_labelsOf N x1 σ = some r) : KR l D dA yM_labelsOf cM_labelsOf 4 (some .int) rm_labelsOf h σ [.int x1] (some (.int r)) := x_enterR rfl (Nat.le_of_ble_eq_true rfl) (fun p e s m args below meth c A C hW ls hl => bM_labelsOf_0 N C x1 σ hM hW ls hl)
def M_refuse (x1 : Int32) (σ : MS) : Option (Int32 × MS) :=
  bnd (sF σ 0 x1) (fun σ1 => some ((0 : Int32), σ1))
set_option maxHeartbeats 4000000 in
set_option maxRecDepth 100000 in
theorem bM_refuse_0  {r : Int32} {σ' : MS} (C : CxM p s m args meth c cM_refuse 2 (some .int) D dA A) (x1 : Int32) (σ : MS) (hM : M_refuse  x1 σ = some (r, σ')) (H : Heap) (locs : List Loc) (hW : WdM D dA h A s σ H locs) (ls : Array Slot) (hl : lv_has ls 2 [(0, .ref (h 0)), (1, .int x1)]) : W p l e rm_refuse s m args below meth c H locs 0 0 (MQ below (QM D dA h A σ' (some (.int r))) args s 0 0 A) (F0 m 0 ls []) := by
  have hx := C.1.1
  have hb := C.1.2.1
  have hown := C.1.2.2.2.2.1
  have hT := C.1.2.2.2.2.2.1
  unfold M_refuse at hM
  refine lv_aload_n (pc := 0) hx hb dM_refuse_0 rfl (lv_at hl 0 rfl) ?_
  refine lv_iload_n (pc := 1) hx hb dM_refuse_1 rfl (lv_at hl 1 rfl) ?_
  refine pM (pc := 2) (ty := .int) C hW 3 0 (by decide) q_1660 rfl rfl (by decide +kernel) rfl rfl (st_thrown dA h _ _) dM_refuse_2 (fun H locs hW => ?_)
  obtain ⟨σ1, eσ1, hM⟩ := bnd_some hM
  rw [← eσ1] at hW
  refine lv_iconst (pc := 5) (v := 0) hx hb dM_refuse_5 (by decide) ?_
  obtain ⟨rfl, rfl⟩ := sm_p hM
  exact x_retMi (pc := 6) C rfl hW dM_refuse_6
theorem kM_refuse (l : Launch) (D : va_G) (dA : Nat → ClassId) (h : Nat → Nat) (x1 : Int32) (σ : MS) {r : Int32} {σ' : MS} (hM : M_refuse x1 σ = some (r, σ')) : KM l D dA yM_refuse cM_refuse 2 (some .int) rm_refuse h σ [.int x1] (some (.int r)) σ' := x_enterM rfl (Nat.le_of_ble_eq_true rfl) (fun p e s m args below meth c A C hW ls hl => bM_refuse_0 C x1 σ hM s.heap [] hW ls hl)
def M_size_22 (N : Nat)  (σ : MS) : Option (Int32 × MS) :=
  cl (M_refuse  (2 : Int32) σ) (fun r1 σ2 => some (r1, σ2))
set_option maxHeartbeats 4000000 in
set_option maxRecDepth 100000 in
theorem bM_size_22 (N : Nat)  {r : Int32} {σ' : MS} (C : CxM p s m args meth c cM_size 2 (some .int) D dA A)  (σ : MS) (hM : M_size_22 N   σ = some (r, σ')) (H : Heap) (locs : List Loc) (hW : WdM D dA h A s σ H locs) (ls : Array Slot) (hl : lv_has ls 2 [(0, .ref (h 0))]) : W p l e rm_size s m args below meth c H locs 0 0 (MQ below (QM D dA h A σ' (some (.int r))) args s 0 0 A) (F0 m 22 ls []) := by
  have hx := C.1.1
  have hb := C.1.2.1
  have hown := C.1.2.2.2.2.1
  have hT := C.1.2.2.2.2.2.1
  unfold M_size_22 at hM
  refine lv_aload_n (pc := 22) hx hb dM_size_22 rfl (lv_at hl 0 rfl) ?_
  refine lv_iconst (pc := 23) (v := 2) hx hb dM_size_23 (by decide) ?_
  obtain ⟨r1, σ2, hr1, hM⟩ := cl_some hM
  refine x_callMi (pc := 24) C hW (kM_refuse l D dA h  (2 : Int32) _ hr1) gM_refuse_727 ⟨rfl, by decide, by decide, by decide +kernel⟩ ⟨rfl, rfl⟩ ⟨by decide, by decide⟩ ⟨by decide, by decide⟩ (As := [.int (2 : Int32)]) (n := 1) rfl hl.1 rfl (Nat.le_of_ble_eq_true rfl) dM_size_24 (fun H locs hW => ?_)
  obtain ⟨rfl, rfl⟩ := sm_p hM
  exact x_retMi (pc := 27) C rfl hW dM_size_27
def M_size_98 (N : Nat) (t0 : Int32) (σ : MS) : Option (Int32 × MS) :=
  some (t0, σ)
set_option maxHeartbeats 4000000 in
set_option maxRecDepth 100000 in
theorem bM_size_98 (N : Nat)  {r : Int32} {σ' : MS} (C : CxM p s m args meth c cM_size 2 (some .int) D dA A) (t0 : Int32) (σ : MS) (hM : M_size_98 N  t0 σ = some (r, σ')) (H : Heap) (locs : List Loc) (hW : WdM D dA h A s σ H locs) (ls : Array Slot) (hl : lv_has ls 2 []) : W p l e rm_size s m args below meth c H locs 0 0 (MQ below (QM D dA h A σ' (some (.int r))) args s 0 0 A) (F0 m 98 ls [.int t0]) := by
  have hx := C.1.1
  have hb := C.1.2.1
  have hown := C.1.2.2.2.2.1
  have hT := C.1.2.2.2.2.2.1
  unfold M_size_98 at hM
  obtain ⟨rfl, rfl⟩ := sm_p hM
  exact x_retMi (pc := 98) C rfl hW dM_size_98
def M_size (N : Nat) (x1 : Int32) (σ : MS) : Option (Int32 × MS) :=
  (if (σ.1 3) = 0 then cl (M_refuse  (1 : Int32) σ) (fun r6 σ7 => some (r6, σ7)) else (if x1 < 0 then M_size_22 N  σ else (if x1 ≤ (5 : Int32) then bnd (sF σ 0 (0 : Int32)) (fun σ1 => (if x1 = 0 then M_size_98 N  (σ1.1 6) σ1 else (if x1 = (1 : Int32) then cr (M_base  σ1) (fun r5 => M_size_98 N  r5 σ1) else (if x1 = (2 : Int32) then cr (M_all  σ1) (fun r4 => M_size_98 N  r4 σ1) else (if x1 = (3 : Int32) then cr (M_labelsOf N (0 : Int32) σ1) (fun r3 => M_size_98 N  r3 σ1) else (if x1 = (4 : Int32) then cr (M_labelsOf N (1 : Int32) σ1) (fun r2 => M_size_98 N  r2 σ1) else M_size_98 N  (σ1.1 8) σ1)))))) else M_size_22 N  σ)))
set_option maxHeartbeats 4000000 in
set_option maxRecDepth 100000 in
theorem bM_size_0 (N : Nat)  {r : Int32} {σ' : MS} (C : CxM p s m args meth c cM_size 2 (some .int) D dA A) (x1 : Int32) (σ : MS) (hM : M_size N  x1 σ = some (r, σ')) (H : Heap) (locs : List Loc) (hW : WdM D dA h A s σ H locs) (ls : Array Slot) (hl : lv_has ls 2 [(0, .ref (h 0)), (1, .int x1)]) : W p l e rm_size s m args below meth c H locs 0 0 (MQ below (QM D dA h A σ' (some (.int r))) args s 0 0 A) (F0 m 0 ls []) := by
  have hx := C.1.1
  have hb := C.1.2.1
  have hown := C.1.2.2.2.2.1
  have hT := C.1.2.2.2.2.2.1
  unfold M_size at hM
  refine lv_aload_n (pc := 0) hx hb dM_size_0 rfl (lv_at hl 0 rfl) ?_
  refine gM (pc := 1) C hW 8 (by decide) q_1665 rfl rfl dM_size_1 ?_
  refine lv_if_ne (pc := 4) (tgt := 13) hx hb dM_size_4 (by decide) (fun hc => ?_) (fun hc => ?_)
  · replace hM := it_f hc hM
    refine lv_iload_n (pc := 13) hx hb dM_size_13 rfl (lv_at hl 1 rfl) ?_
    refine lv_if_lt (pc := 14) (tgt := 22) hx hb dM_size_14 (by decide) (fun hc => ?_) (fun hc => ?_)
    · replace hM := it_t hc hM
      exact bM_size_22 N  C   _ hM _ _ hW _ (lv_sub hl [0] rfl)
    · replace hM := it_f hc hM
      refine lv_iload_n (pc := 17) hx hb dM_size_17 rfl (lv_at hl 1 rfl) ?_
      refine lv_iconst (pc := 18) (v := 5) hx hb dM_size_18 (by decide) ?_
      refine lv_icmp_le (pc := 19) (tgt := 28) hx hb dM_size_19 (by decide) (fun hc => ?_) (fun hc => ?_)
      · replace hM := it_t hc hM
        refine lv_aload_n (pc := 28) hx hb dM_size_28 rfl (lv_at hl 0 rfl) ?_
        refine lv_iconst (pc := 29) (v := 0) hx hb dM_size_29 (by decide) ?_
        refine pM (pc := 30) (ty := .int) C hW 3 0 (by decide) q_1660 rfl rfl (by decide +kernel) rfl rfl (st_thrown dA h _ _) dM_size_30 (fun H locs hW => ?_)
        obtain ⟨σ1, eσ1, hM⟩ := bnd_some hM
        rw [← eσ1] at hW
        refine lv_iload_n (pc := 33) hx hb dM_size_33 rfl (lv_at hl 1 rfl) ?_
        refine lv_if_ne (pc := 34) (tgt := 44) hx hb dM_size_34 (by decide) (fun hc => ?_) (fun hc => ?_)
        · replace hM := it_f hc hM
          refine lv_iload_n (pc := 44) hx hb dM_size_44 rfl (lv_at hl 1 rfl) ?_
          refine lv_iconst (pc := 45) (v := 1) hx hb dM_size_45 (by decide) ?_
          refine lv_icmp_ne (pc := 46) (tgt := 56) hx hb dM_size_46 (by decide) (fun hc => ?_) (fun hc => ?_)
          · replace hM := it_f hc hM
            refine lv_iload_n (pc := 56) hx hb dM_size_56 rfl (lv_at hl 1 rfl) ?_
            refine lv_iconst (pc := 57) (v := 2) hx hb dM_size_57 (by decide) ?_
            refine lv_icmp_ne (pc := 58) (tgt := 68) hx hb dM_size_58 (by decide) (fun hc => ?_) (fun hc => ?_)
            · replace hM := it_f hc hM
              refine lv_iload_n (pc := 68) hx hb dM_size_68 rfl (lv_at hl 1 rfl) ?_
              refine lv_iconst (pc := 69) (v := 3) hx hb dM_size_69 (by decide) ?_
              refine lv_icmp_ne (pc := 70) (tgt := 81) hx hb dM_size_70 (by decide) (fun hc => ?_) (fun hc => ?_)
              · replace hM := it_f hc hM
                refine lv_iload_n (pc := 81) hx hb dM_size_81 rfl (lv_at hl 1 rfl) ?_
                refine lv_iconst (pc := 82) (v := 4) hx hb dM_size_82 (by decide) ?_
                refine lv_icmp_ne (pc := 83) (tgt := 94) hx hb dM_size_83 (by decide) (fun hc => ?_) (fun hc => ?_)
                · replace hM := it_f hc hM
                  refine lv_aload_n (pc := 94) hx hb dM_size_94 rfl (lv_at hl 0 rfl) ?_
                  refine gM (pc := 95) C hW 18 (by decide) q_1675 rfl rfl dM_size_95 ?_
                  exact bM_size_98 N  C  _ _ hM _ _ hW _ (lv_sub hl [] rfl)
                · replace hM := it_t hc hM
                  refine lv_aload_n (pc := 86) hx hb dM_size_86 rfl (lv_at hl 0 rfl) ?_
                  refine lv_iconst (pc := 87) (v := 1) hx hb dM_size_87 (by decide) ?_
                  obtain ⟨r2, hr2, hM⟩ := cr_some hM
                  refine x_callRi (pc := 88) C hW (kM_labelsOf l D dA h N (1 : Int32) _ hr2) gM_labelsOf_730 ⟨rfl, by decide, by decide, by decide +kernel⟩ ⟨rfl, rfl⟩ ⟨by decide, by decide⟩ ⟨by decide, by decide⟩ (As := [.int (1 : Int32)]) (n := 1) rfl hl.1 rfl (Nat.le_of_ble_eq_true rfl) dM_size_88 ?_
                  refine lv_goto (pc := 91) (tgt := 98) hx hb dM_size_91 (by decide) ?_
                  exact bM_size_98 N  C  _ _ hM _ _ hW _ (lv_sub hl [] rfl)
              · replace hM := it_t hc hM
                refine lv_aload_n (pc := 73) hx hb dM_size_73 rfl (lv_at hl 0 rfl) ?_
                refine lv_iconst (pc := 74) (v := 0) hx hb dM_size_74 (by decide) ?_
                obtain ⟨r3, hr3, hM⟩ := cr_some hM
                refine x_callRi (pc := 75) C hW (kM_labelsOf l D dA h N (0 : Int32) _ hr3) gM_labelsOf_730 ⟨rfl, by decide, by decide, by decide +kernel⟩ ⟨rfl, rfl⟩ ⟨by decide, by decide⟩ ⟨by decide, by decide⟩ (As := [.int (0 : Int32)]) (n := 1) rfl hl.1 rfl (Nat.le_of_ble_eq_true rfl) dM_size_75 ?_
                refine lv_goto (pc := 78) (tgt := 98) hx hb dM_size_78 (by decide) ?_
                exact bM_size_98 N  C  _ _ hM _ _ hW _ (lv_sub hl [] rfl)
            · replace hM := it_t hc hM
              refine lv_aload_n (pc := 61) hx hb dM_size_61 rfl (lv_at hl 0 rfl) ?_
              obtain ⟨r4, hr4, hM⟩ := cr_some hM
              refine x_callRi (pc := 62) C hW (kM_all l D dA h  _ hr4) gM_all_721 ⟨rfl, by decide, by decide, by decide +kernel⟩ ⟨rfl, rfl⟩ ⟨by decide, by decide⟩ ⟨by decide, by decide⟩ (As := []) (n := 0) rfl hl.1 rfl (Nat.le_of_ble_eq_true rfl) dM_size_62 ?_
              refine lv_goto (pc := 65) (tgt := 98) hx hb dM_size_65 (by decide) ?_
              exact bM_size_98 N  C  _ _ hM _ _ hW _ (lv_sub hl [] rfl)
          · replace hM := it_t hc hM
            refine lv_aload_n (pc := 49) hx hb dM_size_49 rfl (lv_at hl 0 rfl) ?_
            obtain ⟨r5, hr5, hM⟩ := cr_some hM
            refine x_callRi (pc := 50) C hW (kM_base l D dA h  _ hr5) gM_base_459 ⟨rfl, by decide, by decide, by decide +kernel⟩ ⟨rfl, rfl⟩ ⟨by decide, by decide⟩ ⟨by decide, by decide⟩ (As := []) (n := 0) rfl hl.1 rfl (Nat.le_of_ble_eq_true rfl) dM_size_50 ?_
            refine lv_goto (pc := 53) (tgt := 98) hx hb dM_size_53 (by decide) ?_
            exact bM_size_98 N  C  _ _ hM _ _ hW _ (lv_sub hl [] rfl)
        · replace hM := it_t hc hM
          refine lv_aload_n (pc := 37) hx hb dM_size_37 rfl (lv_at hl 0 rfl) ?_
          refine gM (pc := 38) C hW 16 (by decide) q_1673 rfl rfl dM_size_38 ?_
          refine lv_goto (pc := 41) (tgt := 98) hx hb dM_size_41 (by decide) ?_
          exact bM_size_98 N  C  _ _ hM _ _ hW _ (lv_sub hl [] rfl)
      · replace hM := it_f hc hM
        exact bM_size_22 N  C   _ hM _ _ hW _ (lv_sub hl [0] rfl)
  · replace hM := it_t hc hM
    refine lv_aload_n (pc := 7) hx hb dM_size_7 rfl (lv_at hl 0 rfl) ?_
    refine lv_iconst (pc := 8) (v := 1) hx hb dM_size_8 (by decide) ?_
    obtain ⟨r6, σ7, hr6, hM⟩ := cl_some hM
    refine x_callMi (pc := 9) C hW (kM_refuse l D dA h  (1 : Int32) _ hr6) gM_refuse_727 ⟨rfl, by decide, by decide, by decide +kernel⟩ ⟨rfl, rfl⟩ ⟨by decide, by decide⟩ ⟨by decide, by decide⟩ (As := [.int (1 : Int32)]) (n := 1) rfl hl.1 rfl (Nat.le_of_ble_eq_true rfl) dM_size_9 (fun H locs hW => ?_)
    obtain ⟨rfl, rfl⟩ := sm_p hM
    exact x_retMi (pc := 12) C rfl hW dM_size_12
theorem kM_size (l : Launch) (D : va_G) (dA : Nat → ClassId) (h : Nat → Nat) (N : Nat) (x1 : Int32) (σ : MS) {r : Int32} {σ' : MS} (hM : M_size N x1 σ = some (r, σ')) : KM l D dA yM_size cM_size 2 (some .int) rm_size h σ [.int x1] (some (.int r)) σ' := x_enterM rfl (Nat.le_of_ble_eq_true rfl) (fun p e s m args below meth c A C hW ls hl => bM_size_0 N C x1 σ hM s.heap [] hW ls hl)
def M_holder_40 (N : Nat) (rec2 : Int32 → Int32 → MS → Option Int32) (x1 : Int32) (x2 : Int32) (σ : MS) : Option Int32 :=
  rec2 x1 (x2 + (1 : Int32)) σ
set_option maxHeartbeats 4000000 in
set_option maxRecDepth 100000 in
theorem bM_holder_40 (N : Nat) (rec2 : Int32 → Int32 → MS → Option Int32) {r : Int32} (C : CxM p s m args meth c cM_holder 4 (some .int) D dA A) (hrec2 : ∀ (x1 : Int32) (x2 : Int32) (σ : MS), rec2 x1 x2 σ = some r → WdM D dA h A s σ s.heap [] → ∀ (ls : Array Slot), lv_has ls 4 [(0, .ref (h 0)), (1, .int x1), (2, .int x2)] → W p l e rm_holder s m args below meth c s.heap [] 0 0 (MQ below (QS (some (.int r))) args s 0 0 (fun _ => False)) (F0 m 2 ls [])) (x1 : Int32) (x2 : Int32) (σ : MS) (hM : M_holder_40 N rec2 x1 x2 σ = some r) (hW : WdM D dA h A s σ s.heap []) (ls : Array Slot) (hl : lv_has ls 4 [(0, .ref (h 0)), (1, .int x1), (2, .int x2)]) : W p l e rm_holder s m args below meth c s.heap [] 0 0 (MQ below (QS (some (.int r))) args s 0 0 (fun _ => False)) (F0 m 40 ls []) := by
  have hx := C.1.1
  have hb := C.1.2.1
  have hown := C.1.2.2.2.2.1
  have hT := C.1.2.2.2.2.2.1
  unfold M_holder_40 at hM
  refine lv_iinc (pc := 40) (v := x2 + (1 : Int32)) (lv' := [(2, .int (x2 + (1 : Int32))), (0, .ref (h 0)), (1, .int x1)]) hx hb dM_holder_40 hl (k := 2) rfl rfl (by decide) rfl (fun ls hl => ?_)
  refine lv_goto (pc := 43) (tgt := 2) hx hb dM_holder_43 (by decide) ?_
  exact hrec2 _ _ _ hM hW _ (lv_sub hl [1, 2, 0] rfl)
def M_holder_2 (N : Nat)  : Nat → Int32 → Int32 → MS → Option Int32
  | 0 => fun _ _ _ => none
  | n + 1 => fun x1 x2 σ => (if (σ.1 4) ≤ x2 then some (-1 : Int32) else cr (M_addressOf  x2 σ) (fun r1 => (if x1 < r1 then M_holder_40 N (M_holder_2 N  n) x1 x2 σ else gd (inB x2 1030) (cr (M_sizeAt  x2 (σ.2 3 x2.toNatClampNeg) σ) (fun r3 => (if (r1 + r3) ≤ x1 then M_holder_40 N (M_holder_2 N  n) x1 x2 σ else some x2))))))
set_option maxHeartbeats 4000000 in
set_option maxRecDepth 100000 in
theorem bM_holder_2 (N : Nat)  {r : Int32} (C : CxM p s m args meth c cM_holder 4 (some .int) D dA A) : ∀ (n : Nat) (x1 : Int32) (x2 : Int32) (σ : MS), M_holder_2 N  n x1 x2 σ = some r → WdM D dA h A s σ s.heap [] → ∀ (ls : Array Slot), lv_has ls 4 [(0, .ref (h 0)), (1, .int x1), (2, .int x2)] → W p l e rm_holder s m args below meth c s.heap [] 0 0 (MQ below (QS (some (.int r))) args s 0 0 (fun _ => False)) (F0 m 2 ls []) := by
  have hx := C.1.1
  have hb := C.1.2.1
  have hown := C.1.2.2.2.2.1
  have hT := C.1.2.2.2.2.2.1
  intro n
  induction n with
  | zero => intro x1 x2 σ hM; cases hM
  | succ n hrec2 =>
    intro x1 x2 σ hM hW ls hl
    rw [M_holder_2] at hM
    refine lv_iload_n (pc := 2) hx hb dM_holder_2 rfl (lv_at hl 2 rfl) ?_
    refine lv_aload_n (pc := 3) hx hb dM_holder_3 rfl (lv_at hl 0 rfl) ?_
    refine gM (pc := 4) C hW 9 (by decide) q_1666 rfl rfl dM_holder_4 ?_
    refine lv_icmp_ge (pc := 7) (tgt := 46) hx hb dM_holder_7 (by decide) (fun hc => ?_) (fun hc => ?_)
    · replace hM := it_t hc hM
      refine lv_iconst (pc := 46) (v := -1) hx hb dM_holder_46 (by decide) ?_
      obtain rfl := sm_i hM
      exact x_retS (pc := 47) C.1 rfl dM_holder_47
    · replace hM := it_f hc hM
      refine lv_aload_n (pc := 10) hx hb dM_holder_10 rfl (lv_at hl 0 rfl) ?_
      refine lv_iload_n (pc := 11) hx hb dM_holder_11 rfl (lv_at hl 2 rfl) ?_
      obtain ⟨r1, hr1, hM⟩ := cr_some hM
      refine x_callRi (pc := 12) C hW (kM_addressOf l D dA h  x2 _ hr1) gM_addressOf_700 ⟨rfl, by decide, by decide, by decide +kernel⟩ ⟨rfl, rfl⟩ ⟨by decide, by decide⟩ ⟨by decide, by decide⟩ (As := [.int x2]) (n := 1) rfl hl.1 rfl (Nat.le_of_ble_eq_true rfl) dM_holder_12 ?_
      refine lv_istore_n (pc := 15) (lv' := [(3, .int r1), (0, .ref (h 0)), (1, .int x1), (2, .int x2)]) hx hb dM_holder_15 rfl hl (by decide) rfl (fun ls hl => ?_)
      refine lv_iload_n (pc := 16) hx hb dM_holder_16 rfl (lv_at hl 2 rfl) ?_
      refine lv_iload_n (pc := 17) hx hb dM_holder_17 rfl (lv_at hl 0 rfl) ?_
      refine lv_icmp_lt (pc := 18) (tgt := 40) hx hb dM_holder_18 (by decide) (fun hc => ?_) (fun hc => ?_)
      · replace hM := it_t hc hM
        exact bM_holder_40 N _ C hrec2 _ _ _ hM hW _ (lv_sub hl [1, 2, 3] rfl)
      · replace hM := it_f hc hM
        refine lv_iload_n (pc := 21) hx hb dM_holder_21 rfl (lv_at hl 2 rfl) ?_
        refine lv_iload_n (pc := 22) hx hb dM_holder_22 rfl (lv_at hl 0 rfl) ?_
        refine lv_aload_n (pc := 23) hx hb dM_holder_23 rfl (lv_at hl 1 rfl) ?_
        refine lv_iload_n (pc := 24) hx hb dM_holder_24 rfl (lv_at hl 3 rfl) ?_
        refine lv_aload_n (pc := 25) hx hb dM_holder_25 rfl (lv_at hl 1 rfl) ?_
        refine gM (pc := 26) C hW 11 (by decide) q_1668 rfl rfl dM_holder_26 ?_
        refine lv_iload_n (pc := 29) hx hb dM_holder_29 rfl (lv_at hl 3 rfl) ?_
        obtain ⟨hg2, hM⟩ := gd_some hM
        refine x_ldI (pc := 30) C hW 7 rfl hg2 dM_holder_30 ?_
        obtain ⟨r3, hr3, hM⟩ := cr_some hM
        refine x_callRi (pc := 31) C hW (kM_sizeAt l D dA h  x2 (σ.2 3 x2.toNatClampNeg) _ hr3) gM_sizeAt_697 ⟨rfl, by decide, by decide, by decide +kernel⟩ ⟨rfl, rfl⟩ ⟨by decide, by decide⟩ ⟨by decide, by decide⟩ (As := [.int x2, .int (σ.2 3 x2.toNatClampNeg)]) (n := 2) rfl hl.1 rfl (Nat.le_of_ble_eq_true rfl) dM_holder_31 ?_
        refine lv_iadd (pc := 34) hx hb dM_holder_34 ?_
        refine lv_icmp_ge (pc := 35) (tgt := 40) hx hb dM_holder_35 (by decide) (fun hc => ?_) (fun hc => ?_)
        · replace hM := it_t hc hM
          exact bM_holder_40 N _ C hrec2 _ _ _ hM hW _ (lv_sub hl [1, 2, 3] rfl)
        · replace hM := it_f hc hM
          refine lv_iload_n (pc := 38) hx hb dM_holder_38 rfl (lv_at hl 3 rfl) ?_
          obtain rfl := sm_i hM
          exact x_retS (pc := 39) C.1 rfl dM_holder_39
def M_holder (N : Nat) (x1 : Int32) (σ : MS) : Option Int32 :=
  M_holder_2 N  N x1 (0 : Int32) σ
set_option maxHeartbeats 4000000 in
set_option maxRecDepth 100000 in
theorem bM_holder_0 (N : Nat)  {r : Int32} (C : CxM p s m args meth c cM_holder 4 (some .int) D dA A) (x1 : Int32) (σ : MS) (hM : M_holder N  x1 σ = some r) (hW : WdM D dA h A s σ s.heap []) (ls : Array Slot) (hl : lv_has ls 4 [(0, .ref (h 0)), (1, .int x1)]) : W p l e rm_holder s m args below meth c s.heap [] 0 0 (MQ below (QS (some (.int r))) args s 0 0 (fun _ => False)) (F0 m 0 ls []) := by
  have hx := C.1.1
  have hb := C.1.2.1
  have hown := C.1.2.2.2.2.1
  have hT := C.1.2.2.2.2.2.1
  unfold M_holder at hM
  refine lv_iconst (pc := 0) (v := 0) hx hb dM_holder_0 (by decide) ?_
  refine lv_istore_n (pc := 1) (lv' := [(2, .int (0 : Int32)), (0, .ref (h 0)), (1, .int x1)]) hx hb dM_holder_1 rfl hl (by decide) rfl (fun ls hl => ?_)
  exact bM_holder_2 N  C  N _ _ _ hM hW _ (lv_sub hl [1, 2, 0] rfl)
theorem kM_holder (l : Launch) (D : va_G) (dA : Nat → ClassId) (h : Nat → Nat) (N : Nat) (x1 : Int32) (σ : MS) {r : Int32} (hM : M_holder N x1 σ = some r) : KR l D dA yM_holder cM_holder 4 (some .int) rm_holder h σ [.int x1] (some (.int r)) := x_enterR rfl (Nat.le_of_ble_eq_true rfl) (fun p e s m args below meth c A C hW ls hl => bM_holder_0 N C x1 σ hM hW ls hl)
def M_byteAt_12 (N : Nat)  (σ : MS) : Option (Int32 × MS) :=
  cl (M_refuse  (1 : Int32) σ) (fun r1 σ2 => some (r1, σ2))
set_option maxHeartbeats 4000000 in
set_option maxRecDepth 100000 in
theorem bM_byteAt_12 (N : Nat)  {r : Int32} {σ' : MS} (C : CxM p s m args meth c cM_byteAt 3 (some .int) D dA A)  (σ : MS) (hM : M_byteAt_12 N   σ = some (r, σ')) (H : Heap) (locs : List Loc) (hW : WdM D dA h A s σ H locs) (ls : Array Slot) (hl : lv_has ls 3 [(0, .ref (h 0))]) : W p l e rm_byteAt s m args below meth c H locs 0 0 (MQ below (QM D dA h A σ' (some (.int r))) args s 0 0 A) (F0 m 12 ls []) := by
  have hx := C.1.1
  have hb := C.1.2.1
  have hown := C.1.2.2.2.2.1
  have hT := C.1.2.2.2.2.2.1
  unfold M_byteAt_12 at hM
  refine lv_aload_n (pc := 12) hx hb dM_byteAt_12 rfl (lv_at hl 0 rfl) ?_
  refine lv_iconst (pc := 13) (v := 1) hx hb dM_byteAt_13 (by decide) ?_
  obtain ⟨r1, σ2, hr1, hM⟩ := cl_some hM
  refine x_callMi (pc := 14) C hW (kM_refuse l D dA h  (1 : Int32) _ hr1) gM_refuse_727 ⟨rfl, by decide, by decide, by decide +kernel⟩ ⟨rfl, rfl⟩ ⟨by decide, by decide⟩ ⟨by decide, by decide⟩ (As := [.int (1 : Int32)]) (n := 1) rfl hl.1 rfl (Nat.le_of_ble_eq_true rfl) dM_byteAt_14 (fun H locs hW => ?_)
  obtain ⟨rfl, rfl⟩ := sm_p hM
  exact x_retMi (pc := 17) C rfl hW dM_byteAt_17
def M_byteAt (N : Nat) (x1 : Int32) (σ : MS) : Option (Int32 × MS) :=
  (if x1 < 0 then M_byteAt_12 N  σ else cr (M_all  σ) (fun r1 => (if x1 < r1 then bnd (sF σ 0 (0 : Int32)) (fun σ2 => cr (M_holder N x1 σ2) (fun r3 => (if 0 ≤ r3 then cr (M_addressOf  r3 σ2) (fun r4 => bnd (sF σ2 21 (x1 - r4)) (fun σ5 => cl (M_again N r3 (3 : Int32) σ5) (fun r6 σ7 => some (σ7.1 22, σ7)))) else some ((0 : Int32), σ2)))) else M_byteAt_12 N  σ)))
set_option maxHeartbeats 4000000 in
set_option maxRecDepth 100000 in
theorem bM_byteAt_0 (N : Nat)  {r : Int32} {σ' : MS} (C : CxM p s m args meth c cM_byteAt 3 (some .int) D dA A) (x1 : Int32) (σ : MS) (hM : M_byteAt N  x1 σ = some (r, σ')) (H : Heap) (locs : List Loc) (hW : WdM D dA h A s σ H locs) (ls : Array Slot) (hl : lv_has ls 3 [(0, .ref (h 0)), (1, .int x1)]) : W p l e rm_byteAt s m args below meth c H locs 0 0 (MQ below (QM D dA h A σ' (some (.int r))) args s 0 0 A) (F0 m 0 ls []) := by
  have hx := C.1.1
  have hb := C.1.2.1
  have hown := C.1.2.2.2.2.1
  have hT := C.1.2.2.2.2.2.1
  unfold M_byteAt at hM
  refine lv_iload_n (pc := 0) hx hb dM_byteAt_0 rfl (lv_at hl 1 rfl) ?_
  refine lv_if_lt (pc := 1) (tgt := 12) hx hb dM_byteAt_1 (by decide) (fun hc => ?_) (fun hc => ?_)
  · replace hM := it_t hc hM
    exact bM_byteAt_12 N  C   _ hM _ _ hW _ (lv_sub hl [0] rfl)
  · replace hM := it_f hc hM
    refine lv_iload_n (pc := 4) hx hb dM_byteAt_4 rfl (lv_at hl 1 rfl) ?_
    refine lv_aload_n (pc := 5) hx hb dM_byteAt_5 rfl (lv_at hl 0 rfl) ?_
    obtain ⟨r1, hr1, hM⟩ := cr_some hM
    refine x_callRi (pc := 6) C hW (kM_all l D dA h  _ hr1) gM_all_721 ⟨rfl, by decide, by decide, by decide +kernel⟩ ⟨rfl, rfl⟩ ⟨by decide, by decide⟩ ⟨by decide, by decide⟩ (As := []) (n := 0) rfl hl.1 rfl (Nat.le_of_ble_eq_true rfl) dM_byteAt_6 ?_
    refine lv_icmp_lt (pc := 9) (tgt := 18) hx hb dM_byteAt_9 (by decide) (fun hc => ?_) (fun hc => ?_)
    · replace hM := it_t hc hM
      refine lv_aload_n (pc := 18) hx hb dM_byteAt_18 rfl (lv_at hl 0 rfl) ?_
      refine lv_iconst (pc := 19) (v := 0) hx hb dM_byteAt_19 (by decide) ?_
      refine pM (pc := 20) (ty := .int) C hW 3 0 (by decide) q_1660 rfl rfl (by decide +kernel) rfl rfl (st_thrown dA h _ _) dM_byteAt_20 (fun H locs hW => ?_)
      obtain ⟨σ2, eσ2, hM⟩ := bnd_some hM
      rw [← eσ2] at hW
      refine lv_aload_n (pc := 23) hx hb dM_byteAt_23 rfl (lv_at hl 0 rfl) ?_
      refine lv_iload_n (pc := 24) hx hb dM_byteAt_24 rfl (lv_at hl 1 rfl) ?_
      obtain ⟨r3, hr3, hM⟩ := cr_some hM
      refine x_callRi (pc := 25) C hW (kM_holder l D dA h N x1 _ hr3) gM_holder_734 ⟨rfl, by decide, by decide, by decide +kernel⟩ ⟨rfl, rfl⟩ ⟨by decide, by decide⟩ ⟨by decide, by decide⟩ (As := [.int x1]) (n := 1) rfl hl.1 rfl (Nat.le_of_ble_eq_true rfl) dM_byteAt_25 ?_
      refine lv_istore_n (pc := 28) (lv' := [(2, .int r3), (0, .ref (h 0)), (1, .int x1)]) hx hb dM_byteAt_28 rfl hl (by decide) rfl (fun ls hl => ?_)
      refine lv_iload_n (pc := 29) hx hb dM_byteAt_29 rfl (lv_at hl 0 rfl) ?_
      refine lv_if_ge (pc := 30) (tgt := 35) hx hb dM_byteAt_30 (by decide) (fun hc => ?_) (fun hc => ?_)
      · replace hM := it_t hc hM
        refine lv_aload_n (pc := 35) hx hb dM_byteAt_35 rfl (lv_at hl 1 rfl) ?_
        refine lv_iload_n (pc := 36) hx hb dM_byteAt_36 rfl (lv_at hl 2 rfl) ?_
        refine lv_aload_n (pc := 37) hx hb dM_byteAt_37 rfl (lv_at hl 1 rfl) ?_
        refine lv_iload_n (pc := 38) hx hb dM_byteAt_38 rfl (lv_at hl 0 rfl) ?_
        obtain ⟨r4, hr4, hM⟩ := cr_some hM
        refine x_callRi (pc := 39) C hW (kM_addressOf l D dA h  r3 _ hr4) gM_addressOf_700 ⟨rfl, by decide, by decide, by decide +kernel⟩ ⟨rfl, rfl⟩ ⟨by decide, by decide⟩ ⟨by decide, by decide⟩ (As := [.int r3]) (n := 1) rfl hl.1 rfl (Nat.le_of_ble_eq_true rfl) dM_byteAt_39 ?_
        refine lv_isub (pc := 42) hx hb dM_byteAt_42 ?_
        refine pM (pc := 43) (ty := .int) C hW 31 21 (by decide) q_1688 rfl rfl (by decide +kernel) rfl rfl (st_wanted dA h _ _) dM_byteAt_43 (fun H locs hW => ?_)
        obtain ⟨σ5, eσ5, hM⟩ := bnd_some hM
        rw [← eσ5] at hW
        refine lv_aload_n (pc := 46) hx hb dM_byteAt_46 rfl (lv_at hl 1 rfl) ?_
        refine lv_iload_n (pc := 47) hx hb dM_byteAt_47 rfl (lv_at hl 0 rfl) ?_
        refine lv_iconst (pc := 48) (v := 3) hx hb dM_byteAt_48 (by decide) ?_
        obtain ⟨r6, σ7, hr6, hM⟩ := cl_some hM
        refine x_callMv (pc := 49) C hW (kM_again l D dA h N r3 (3 : Int32) _ hr6) gM_again_709 ⟨rfl, by decide, by decide, by decide +kernel⟩ ⟨rfl, rfl⟩ ⟨by decide, by decide⟩ ⟨by decide, by decide⟩ (As := [.int r3, .int (3 : Int32)]) (n := 2) rfl hl.1 rfl (Nat.le_of_ble_eq_true rfl) dM_byteAt_49 (fun H locs hW => ?_)
        refine lv_aload_n (pc := 52) hx hb dM_byteAt_52 rfl (lv_at hl 1 rfl) ?_
        refine gM (pc := 53) C hW 32 (by decide) q_1689 rfl rfl dM_byteAt_53 ?_
        obtain ⟨rfl, rfl⟩ := sm_p hM
        exact x_retMi (pc := 56) C rfl hW dM_byteAt_56
      · replace hM := it_f hc hM
        refine lv_iconst (pc := 33) (v := 0) hx hb dM_byteAt_33 (by decide) ?_
        obtain ⟨rfl, rfl⟩ := sm_p hM
        exact x_retMi (pc := 34) C rfl hW dM_byteAt_34
    · replace hM := it_f hc hM
      exact bM_byteAt_12 N  C   _ hM _ _ hW _ (lv_sub hl [0] rfl)
theorem kM_byteAt (l : Launch) (D : va_G) (dA : Nat → ClassId) (h : Nat → Nat) (N : Nat) (x1 : Int32) (σ : MS) {r : Int32} {σ' : MS} (hM : M_byteAt N x1 σ = some (r, σ')) : KM l D dA yM_byteAt cM_byteAt 3 (some .int) rm_byteAt h σ [.int x1] (some (.int r)) σ' := x_enterM rfl (Nat.le_of_ble_eq_true rfl) (fun p e s m args below meth c A C hW ls hl => bM_byteAt_0 N C x1 σ hM s.heap [] hW ls hl)
def M_labelAt_58 (N : Nat)  (σ : MS) : Option Int32 :=
  some (-1 : Int32)
set_option maxHeartbeats 4000000 in
set_option maxRecDepth 100000 in
theorem bM_labelAt_58 (N : Nat)  {r : Int32} (C : CxM p s m args meth c cM_labelAt 4 (some .int) D dA A)  (σ : MS) (hM : M_labelAt_58 N   σ = some r) (hW : WdM D dA h A s σ s.heap []) (ls : Array Slot) (hl : lv_has ls 4 []) : W p l e rm_labelAt s m args below meth c s.heap [] 0 0 (MQ below (QS (some (.int r))) args s 0 0 (fun _ => False)) (F0 m 58 ls []) := by
  have hx := C.1.1
  have hb := C.1.2.1
  have hown := C.1.2.2.2.2.1
  have hT := C.1.2.2.2.2.2.1
  unfold M_labelAt_58 at hM
  refine lv_iconst (pc := 58) (v := -1) hx hb dM_labelAt_58 (by decide) ?_
  obtain rfl := sm_i hM
  exact x_retS (pc := 59) C.1 rfl dM_labelAt_59
def M_labelAt_52 (N : Nat) (rec15 : Int32 → Int32 → MS → Option Int32) (x2 : Int32) (x3 : Int32) (σ : MS) : Option Int32 :=
  rec15 x2 (x3 + (1 : Int32)) σ
set_option maxHeartbeats 4000000 in
set_option maxRecDepth 100000 in
theorem bM_labelAt_52 (N : Nat) (rec15 : Int32 → Int32 → MS → Option Int32) {r : Int32} (C : CxM p s m args meth c cM_labelAt 4 (some .int) D dA A) (hrec15 : ∀ (x2 : Int32) (x3 : Int32) (σ : MS), rec15 x2 x3 σ = some r → WdM D dA h A s σ s.heap [] → ∀ (ls : Array Slot), lv_has ls 4 [(0, .ref (h 0)), (2, .int x2), (3, .int x3)] → W p l e rm_labelAt s m args below meth c s.heap [] 0 0 (MQ below (QS (some (.int r))) args s 0 0 (fun _ => False)) (F0 m 15 ls [])) (x2 : Int32) (x3 : Int32) (σ : MS) (hM : M_labelAt_52 N rec15 x2 x3 σ = some r) (hW : WdM D dA h A s σ s.heap []) (ls : Array Slot) (hl : lv_has ls 4 [(0, .ref (h 0)), (2, .int x2), (3, .int x3)]) : W p l e rm_labelAt s m args below meth c s.heap [] 0 0 (MQ below (QS (some (.int r))) args s 0 0 (fun _ => False)) (F0 m 52 ls []) := by
  have hx := C.1.1
  have hb := C.1.2.1
  have hown := C.1.2.2.2.2.1
  have hT := C.1.2.2.2.2.2.1
  unfold M_labelAt_52 at hM
  refine lv_iinc (pc := 52) (v := x3 + (1 : Int32)) (lv' := [(3, .int (x3 + (1 : Int32))), (0, .ref (h 0)), (2, .int x2)]) hx hb dM_labelAt_52 hl (k := 2) rfl rfl (by decide) rfl (fun ls hl => ?_)
  refine lv_goto (pc := 55) (tgt := 15) hx hb dM_labelAt_55 (by decide) ?_
  exact hrec15 _ _ _ hM hW _ (lv_sub hl [1, 2, 0] rfl)
def M_labelAt_15 (N : Nat)  : Nat → Int32 → Int32 → MS → Option Int32
  | 0 => fun _ _ _ => none
  | n + 1 => fun x2 x3 σ => (if (σ.1 5) ≤ x3 then M_labelAt_58 N  σ else (if x2 < 0 then M_labelAt_58 N  σ else gd (inB x3 2060) ((if ((σ.2 5 x3.toNatClampNeg) >>> ((13 : Int32) &&& 31)) < (2 : Int32) then (if x2 = 0 then some x3 else M_labelAt_52 N (M_labelAt_15 N  n) (x2 + (-1 : Int32)) x3 σ) else M_labelAt_52 N (M_labelAt_15 N  n) x2 x3 σ))))
set_option maxHeartbeats 4000000 in
set_option maxRecDepth 100000 in
theorem bM_labelAt_15 (N : Nat)  {r : Int32} (C : CxM p s m args meth c cM_labelAt 4 (some .int) D dA A) : ∀ (n : Nat) (x2 : Int32) (x3 : Int32) (σ : MS), M_labelAt_15 N  n x2 x3 σ = some r → WdM D dA h A s σ s.heap [] → ∀ (ls : Array Slot), lv_has ls 4 [(0, .ref (h 0)), (2, .int x2), (3, .int x3)] → W p l e rm_labelAt s m args below meth c s.heap [] 0 0 (MQ below (QS (some (.int r))) args s 0 0 (fun _ => False)) (F0 m 15 ls []) := by
  have hx := C.1.1
  have hb := C.1.2.1
  have hown := C.1.2.2.2.2.1
  have hT := C.1.2.2.2.2.2.1
  intro n
  induction n with
  | zero => intro x2 x3 σ hM; cases hM
  | succ n hrec15 =>
    intro x2 x3 σ hM hW ls hl
    rw [M_labelAt_15] at hM
    refine lv_iload_n (pc := 15) hx hb dM_labelAt_15 rfl (lv_at hl 2 rfl) ?_
    refine lv_aload_n (pc := 16) hx hb dM_labelAt_16 rfl (lv_at hl 0 rfl) ?_
    refine gM (pc := 17) C hW 13 (by decide) q_1670 rfl rfl dM_labelAt_17 ?_
    refine lv_icmp_ge (pc := 20) (tgt := 58) hx hb dM_labelAt_20 (by decide) (fun hc => ?_) (fun hc => ?_)
    · replace hM := it_t hc hM
      exact bM_labelAt_58 N  C   _ hM hW _ (lv_sub hl [] rfl)
    · replace hM := it_f hc hM
      refine lv_iload_n (pc := 23) hx hb dM_labelAt_23 rfl (lv_at hl 1 rfl) ?_
      refine lv_if_lt (pc := 24) (tgt := 58) hx hb dM_labelAt_24 (by decide) (fun hc => ?_) (fun hc => ?_)
      · replace hM := it_t hc hM
        exact bM_labelAt_58 N  C   _ hM hW _ (lv_sub hl [] rfl)
      · replace hM := it_f hc hM
        refine lv_aload_n (pc := 27) hx hb dM_labelAt_27 rfl (lv_at hl 0 rfl) ?_
        refine gM (pc := 28) C hW 14 (by decide) q_1671 rfl rfl dM_labelAt_28 ?_
        refine lv_iload_n (pc := 31) hx hb dM_labelAt_31 rfl (lv_at hl 2 rfl) ?_
        obtain ⟨hg1, hM⟩ := gd_some hM
        refine x_ldI (pc := 32) C hW 9 rfl hg1 dM_labelAt_32 ?_
        refine lv_bipush (pc := 33) (v := 13) hx hb dM_labelAt_33 (by decide) ?_
        refine lv_ishr (pc := 35) hx hb dM_labelAt_35 ?_
        refine lv_iconst (pc := 36) (v := 2) hx hb dM_labelAt_36 (by decide) ?_
        refine lv_icmp_lt (pc := 37) (tgt := 43) hx hb dM_labelAt_37 (by decide) (fun hc => ?_) (fun hc => ?_)
        · replace hM := it_t hc hM
          refine lv_iload_n (pc := 43) hx hb dM_labelAt_43 rfl (lv_at hl 1 rfl) ?_
          refine lv_if_ne (pc := 44) (tgt := 49) hx hb dM_labelAt_44 (by decide) (fun hc => ?_) (fun hc => ?_)
          · replace hM := it_f hc hM
            refine lv_iinc (pc := 49) (v := x2 + (-1 : Int32)) (lv' := [(2, .int (x2 + (-1 : Int32))), (0, .ref (h 0)), (3, .int x3)]) hx hb dM_labelAt_49 hl (k := 1) rfl rfl (by decide) rfl (fun ls hl => ?_)
            exact bM_labelAt_52 N _ C hrec15 _ _ _ hM hW _ (lv_sub hl [1, 0, 2] rfl)
          · replace hM := it_t hc hM
            refine lv_iload_n (pc := 47) hx hb dM_labelAt_47 rfl (lv_at hl 2 rfl) ?_
            obtain rfl := sm_i hM
            exact x_retS (pc := 48) C.1 rfl dM_labelAt_48
        · replace hM := it_f hc hM
          refine lv_goto (pc := 40) (tgt := 52) hx hb dM_labelAt_40 (by decide) ?_
          exact bM_labelAt_52 N _ C hrec15 _ _ _ hM hW _ (lv_sub hl [0, 1, 2] rfl)
def M_labelAt_12 (N : Nat) (t0 : Int32) (σ : MS) : Option Int32 :=
  M_labelAt_15 N  N t0 (0 : Int32) σ
set_option maxHeartbeats 4000000 in
set_option maxRecDepth 100000 in
theorem bM_labelAt_12 (N : Nat)  {r : Int32} (C : CxM p s m args meth c cM_labelAt 4 (some .int) D dA A) (t0 : Int32) (σ : MS) (hM : M_labelAt_12 N  t0 σ = some r) (hW : WdM D dA h A s σ s.heap []) (ls : Array Slot) (hl : lv_has ls 4 [(0, .ref (h 0))]) : W p l e rm_labelAt s m args below meth c s.heap [] 0 0 (MQ below (QS (some (.int r))) args s 0 0 (fun _ => False)) (F0 m 12 ls [.int t0]) := by
  have hx := C.1.1
  have hb := C.1.2.1
  have hown := C.1.2.2.2.2.1
  have hT := C.1.2.2.2.2.2.1
  unfold M_labelAt_12 at hM
  refine lv_istore_n (pc := 12) (lv' := [(2, .int t0), (0, .ref (h 0))]) hx hb dM_labelAt_12 rfl hl (by decide) rfl (fun ls hl => ?_)
  refine lv_iconst (pc := 13) (v := 0) hx hb dM_labelAt_13 (by decide) ?_
  refine lv_istore_n (pc := 14) (lv' := [(3, .int (0 : Int32)), (2, .int t0), (0, .ref (h 0))]) hx hb dM_labelAt_14 rfl hl (by decide) rfl (fun ls hl => ?_)
  exact bM_labelAt_15 N  C  N _ _ _ hM hW _ (lv_sub hl [2, 1, 0] rfl)
def M_labelAt (N : Nat) (x1 : Int32) (σ : MS) : Option Int32 :=
  (if (σ.1 3) = 0 then M_labelAt_12 N  (-1 : Int32) σ else M_labelAt_12 N  x1 σ)
set_option maxHeartbeats 4000000 in
set_option maxRecDepth 100000 in
theorem bM_labelAt_0 (N : Nat)  {r : Int32} (C : CxM p s m args meth c cM_labelAt 4 (some .int) D dA A) (x1 : Int32) (σ : MS) (hM : M_labelAt N  x1 σ = some r) (hW : WdM D dA h A s σ s.heap []) (ls : Array Slot) (hl : lv_has ls 4 [(0, .ref (h 0)), (1, .int x1)]) : W p l e rm_labelAt s m args below meth c s.heap [] 0 0 (MQ below (QS (some (.int r))) args s 0 0 (fun _ => False)) (F0 m 0 ls []) := by
  have hx := C.1.1
  have hb := C.1.2.1
  have hown := C.1.2.2.2.2.1
  have hT := C.1.2.2.2.2.2.1
  unfold M_labelAt at hM
  refine lv_aload_n (pc := 0) hx hb dM_labelAt_0 rfl (lv_at hl 0 rfl) ?_
  refine gM (pc := 1) C hW 8 (by decide) q_1665 rfl rfl dM_labelAt_1 ?_
  refine lv_if_eq (pc := 4) (tgt := 11) hx hb dM_labelAt_4 (by decide) (fun hc => ?_) (fun hc => ?_)
  · replace hM := it_t hc hM
    refine lv_iconst (pc := 11) (v := -1) hx hb dM_labelAt_11 (by decide) ?_
    exact bM_labelAt_12 N  C  _ _ hM hW _ (lv_sub hl [0] rfl)
  · replace hM := it_f hc hM
    refine lv_iload_n (pc := 7) hx hb dM_labelAt_7 rfl (lv_at hl 1 rfl) ?_
    refine lv_goto (pc := 8) (tgt := 12) hx hb dM_labelAt_8 (by decide) ?_
    exact bM_labelAt_12 N  C  _ _ hM hW _ (lv_sub hl [0] rfl)
theorem kM_labelAt (l : Launch) (D : va_G) (dA : Nat → ClassId) (h : Nat → Nat) (N : Nat) (x1 : Int32) (σ : MS) {r : Int32} (hM : M_labelAt N x1 σ = some r) : KR l D dA yM_labelAt cM_labelAt 4 (some .int) rm_labelAt h σ [.int x1] (some (.int r)) := x_enterR rfl (Nat.le_of_ble_eq_true rfl) (fun p e s m args below meth c A C hW ls hl => bM_labelAt_0 N C x1 σ hM hW ls hl)
def M_address_32 (N : Nat) (t0 : Int32) (σ : MS) : Option (Int32 × MS) :=
  some (t0, σ)
set_option maxHeartbeats 4000000 in
set_option maxRecDepth 100000 in
theorem bM_address_32 (N : Nat)  {r : Int32} {σ' : MS} (C : CxM p s m args meth c cM_address 3 (some .int) D dA A) (t0 : Int32) (σ : MS) (hM : M_address_32 N  t0 σ = some (r, σ')) (H : Heap) (locs : List Loc) (hW : WdM D dA h A s σ H locs) (ls : Array Slot) (hl : lv_has ls 3 []) : W p l e rm_address s m args below meth c H locs 0 0 (MQ below (QM D dA h A σ' (some (.int r))) args s 0 0 A) (F0 m 32 ls [.int t0]) := by
  have hx := C.1.1
  have hb := C.1.2.1
  have hown := C.1.2.2.2.2.1
  have hT := C.1.2.2.2.2.2.1
  unfold M_address_32 at hM
  obtain ⟨rfl, rfl⟩ := sm_p hM
  exact x_retMi (pc := 32) C rfl hW dM_address_32
def M_address_16 (N : Nat) (x2 : Int32) (t1 : Int32) (σ : MS) : Option (Int32 × MS) :=
  bnd (sF σ 0 t1) (fun σ1 => (if 0 ≤ x2 then cr (M_valueOf  x2 σ1) (fun r2 => M_address_32 N  r2 σ1) else M_address_32 N  (0 : Int32) σ1))
set_option maxHeartbeats 4000000 in
set_option maxRecDepth 100000 in
theorem bM_address_16 (N : Nat)  {r : Int32} {σ' : MS} (C : CxM p s m args meth c cM_address 3 (some .int) D dA A) (x2 : Int32) (t1 : Int32) (σ : MS) (hM : M_address_16 N  x2 t1 σ = some (r, σ')) (H : Heap) (locs : List Loc) (hW : WdM D dA h A s σ H locs) (ls : Array Slot) (hl : lv_has ls 3 [(0, .ref (h 0)), (2, .int x2)]) : W p l e rm_address s m args below meth c H locs 0 0 (MQ below (QM D dA h A σ' (some (.int r))) args s 0 0 A) (F0 m 16 ls [.int t1, .ref (h 0)]) := by
  have hx := C.1.1
  have hb := C.1.2.1
  have hown := C.1.2.2.2.2.1
  have hT := C.1.2.2.2.2.2.1
  unfold M_address_16 at hM
  refine pM (pc := 16) (ty := .int) C hW 3 0 (by decide) q_1660 rfl rfl (by decide +kernel) rfl rfl (st_thrown dA h _ _) dM_address_16 (fun H locs hW => ?_)
  obtain ⟨σ1, eσ1, hM⟩ := bnd_some hM
  rw [← eσ1] at hW
  refine lv_iload_n (pc := 19) hx hb dM_address_19 rfl (lv_at hl 1 rfl) ?_
  refine lv_if_ge (pc := 20) (tgt := 27) hx hb dM_address_20 (by decide) (fun hc => ?_) (fun hc => ?_)
  · replace hM := it_t hc hM
    refine lv_aload_n (pc := 27) hx hb dM_address_27 rfl (lv_at hl 0 rfl) ?_
    refine lv_iload_n (pc := 28) hx hb dM_address_28 rfl (lv_at hl 1 rfl) ?_
    obtain ⟨r2, hr2, hM⟩ := cr_some hM
    refine x_callRi (pc := 29) C hW (kM_valueOf l D dA h  x2 _ hr2) gM_valueOf_470 ⟨rfl, by decide, by decide, by decide +kernel⟩ ⟨rfl, rfl⟩ ⟨by decide, by decide⟩ ⟨by decide, by decide⟩ (As := [.int x2]) (n := 1) rfl hl.1 rfl (Nat.le_of_ble_eq_true rfl) dM_address_29 ?_
    exact bM_address_32 N  C  _ _ hM _ _ hW _ (lv_sub hl [] rfl)
  · replace hM := it_f hc hM
    refine lv_iconst (pc := 23) (v := 0) hx hb dM_address_23 (by decide) ?_
    refine lv_goto (pc := 24) (tgt := 32) hx hb dM_address_24 (by decide) ?_
    exact bM_address_32 N  C  _ _ hM _ _ hW _ (lv_sub hl [] rfl)
def M_address (N : Nat) (x1 : Int32) (σ : MS) : Option (Int32 × MS) :=
  cr (M_labelAt N x1 σ) (fun r1 => (if 0 ≤ r1 then M_address_16 N  r1 (0 : Int32) σ else M_address_16 N  r1 (1 : Int32) σ))
set_option maxHeartbeats 4000000 in
set_option maxRecDepth 100000 in
theorem bM_address_0 (N : Nat)  {r : Int32} {σ' : MS} (C : CxM p s m args meth c cM_address 3 (some .int) D dA A) (x1 : Int32) (σ : MS) (hM : M_address N  x1 σ = some (r, σ')) (H : Heap) (locs : List Loc) (hW : WdM D dA h A s σ H locs) (ls : Array Slot) (hl : lv_has ls 3 [(0, .ref (h 0)), (1, .int x1)]) : W p l e rm_address s m args below meth c H locs 0 0 (MQ below (QM D dA h A σ' (some (.int r))) args s 0 0 A) (F0 m 0 ls []) := by
  have hx := C.1.1
  have hb := C.1.2.1
  have hown := C.1.2.2.2.2.1
  have hT := C.1.2.2.2.2.2.1
  unfold M_address at hM
  refine lv_aload_n (pc := 0) hx hb dM_address_0 rfl (lv_at hl 0 rfl) ?_
  refine lv_iload_n (pc := 1) hx hb dM_address_1 rfl (lv_at hl 1 rfl) ?_
  obtain ⟨r1, hr1, hM⟩ := cr_some hM
  refine x_callRi (pc := 2) C hW (kM_labelAt l D dA h N x1 _ hr1) gM_labelAt_737 ⟨rfl, by decide, by decide, by decide +kernel⟩ ⟨rfl, rfl⟩ ⟨by decide, by decide⟩ ⟨by decide, by decide⟩ (As := [.int x1]) (n := 1) rfl hl.1 rfl (Nat.le_of_ble_eq_true rfl) dM_address_2 ?_
  refine lv_istore_n (pc := 5) (lv' := [(2, .int r1), (0, .ref (h 0)), (1, .int x1)]) hx hb dM_address_5 rfl hl (by decide) rfl (fun ls hl => ?_)
  refine lv_aload_n (pc := 6) hx hb dM_address_6 rfl (lv_at hl 1 rfl) ?_
  refine lv_iload_n (pc := 7) hx hb dM_address_7 rfl (lv_at hl 0 rfl) ?_
  refine lv_if_ge (pc := 8) (tgt := 15) hx hb dM_address_8 (by decide) (fun hc => ?_) (fun hc => ?_)
  · replace hM := it_t hc hM
    refine lv_iconst (pc := 15) (v := 0) hx hb dM_address_15 (by decide) ?_
    exact bM_address_16 N  C  _ _ _ hM _ _ hW _ (lv_sub hl [1, 0] rfl)
  · replace hM := it_f hc hM
    refine lv_iconst (pc := 11) (v := 1) hx hb dM_address_11 (by decide) ?_
    refine lv_goto (pc := 12) (tgt := 16) hx hb dM_address_12 (by decide) ?_
    exact bM_address_16 N  C  _ _ _ hM _ _ hW _ (lv_sub hl [1, 0] rfl)
theorem kM_address (l : Launch) (D : va_G) (dA : Nat → ClassId) (h : Nat → Nat) (N : Nat) (x1 : Int32) (σ : MS) {r : Int32} {σ' : MS} (hM : M_address N x1 σ = some (r, σ')) : KM l D dA yM_address cM_address 3 (some .int) rm_address h σ [.int x1] (some (.int r)) σ' := x_enterM rfl (Nat.le_of_ble_eq_true rfl) (fun p e s m args below meth c A C hW ls hl => bM_address_0 N C x1 σ hM s.heap [] hW ls hl)
def M_letter_76 (N : Nat) (t0 : Int32) (σ : MS) : Option (Int32 × MS) :=
  gd (isC t0) (some (t0, σ))
set_option maxHeartbeats 4000000 in
set_option maxRecDepth 100000 in
theorem bM_letter_76 (N : Nat)  {r : Int32} {σ' : MS} (C : CxM p s m args meth c cM_letter 5 (some .char) D dA A) (t0 : Int32) (σ : MS) (hM : M_letter_76 N  t0 σ = some (r, σ')) (H : Heap) (locs : List Loc) (hW : WdM D dA h A s σ H locs) (ls : Array Slot) (hl : lv_has ls 5 []) : W p l e rm_letter s m args below meth c H locs 0 0 (MQ below (QM D dA h A σ' (some (.int r))) args s 0 0 A) (F0 m 76 ls [.int t0]) := by
  have hx := C.1.1
  have hb := C.1.2.1
  have hown := C.1.2.2.2.2.1
  have hT := C.1.2.2.2.2.2.1
  unfold M_letter_76 at hM
  obtain ⟨hg1, hM⟩ := gd_some hM
  obtain ⟨rfl, rfl⟩ := sm_p hM
  exact x_retMz (pc := 76) C rfl (isC_n hg1) hW dM_letter_76
def M_letter_53 (N : Nat) (x2 : Int32) (x4 : Int32) (t1 : Int32) (σ : MS) : Option (Int32 × MS) :=
  bnd (sF σ 0 t1) (fun σ1 => (if (σ1.1 0) ≤ 0 then gd (inB (x4 + x2) 4100) (M_letter_76 N  (σ1.2 1 (x4 + x2).toNatClampNeg) σ1) else M_letter_76 N  (0 : Int32) σ1))
set_option maxHeartbeats 4000000 in
set_option maxRecDepth 100000 in
theorem bM_letter_53 (N : Nat)  {r : Int32} {σ' : MS} (C : CxM p s m args meth c cM_letter 5 (some .char) D dA A) (x2 : Int32) (x4 : Int32) (t1 : Int32) (σ : MS) (hM : M_letter_53 N  x2 x4 t1 σ = some (r, σ')) (H : Heap) (locs : List Loc) (hW : WdM D dA h A s σ H locs) (ls : Array Slot) (hl : lv_has ls 5 [(0, .ref (h 0)), (2, .int x2), (4, .int x4)]) : W p l e rm_letter s m args below meth c H locs 0 0 (MQ below (QM D dA h A σ' (some (.int r))) args s 0 0 A) (F0 m 53 ls [.int t1, .ref (h 0)]) := by
  have hx := C.1.1
  have hb := C.1.2.1
  have hown := C.1.2.2.2.2.1
  have hT := C.1.2.2.2.2.2.1
  unfold M_letter_53 at hM
  refine pM (pc := 53) (ty := .int) C hW 3 0 (by decide) q_1660 rfl rfl (by decide +kernel) rfl rfl (st_thrown dA h _ _) dM_letter_53 (fun H locs hW => ?_)
  obtain ⟨σ1, eσ1, hM⟩ := bnd_some hM
  rw [← eσ1] at hW
  refine lv_aload_n (pc := 56) hx hb dM_letter_56 rfl (lv_at hl 0 rfl) ?_
  refine gM (pc := 57) C hW 3 (by decide) q_1660 rfl rfl dM_letter_57 ?_
  refine lv_if_le (pc := 60) (tgt := 67) hx hb dM_letter_60 (by decide) (fun hc => ?_) (fun hc => ?_)
  · replace hM := it_t hc hM
    refine lv_aload_n (pc := 67) hx hb dM_letter_67 rfl (lv_at hl 0 rfl) ?_
    refine gM (pc := 68) C hW 6 (by decide) q_1663 rfl rfl dM_letter_68 ?_
    refine lv_iload (pc := 71) hx hb dM_letter_71 (lv_at hl 2 rfl) ?_
    refine lv_iload_n (pc := 73) hx hb dM_letter_73 rfl (lv_at hl 1 rfl) ?_
    refine lv_iadd (pc := 74) hx hb dM_letter_74 ?_
    obtain ⟨hg2, hM⟩ := gd_some hM
    refine x_ldC (pc := 75) C hW 5 rfl hg2 dM_letter_75 ?_
    exact bM_letter_76 N  C  _ _ hM _ _ hW _ (lv_sub hl [] rfl)
  · replace hM := it_f hc hM
    refine lv_iconst (pc := 63) (v := 0) hx hb dM_letter_63 (by decide) ?_
    refine lv_goto (pc := 64) (tgt := 76) hx hb dM_letter_64 (by decide) ?_
    exact bM_letter_76 N  C  _ _ hM _ _ hW _ (lv_sub hl [] rfl)
def M_letter_48 (N : Nat) (x2 : Int32) (x4 : Int32) (σ : MS) : Option (Int32 × MS) :=
  M_letter_53 N  x2 x4 (1 : Int32) σ
set_option maxHeartbeats 4000000 in
set_option maxRecDepth 100000 in
theorem bM_letter_48 (N : Nat)  {r : Int32} {σ' : MS} (C : CxM p s m args meth c cM_letter 5 (some .char) D dA A) (x2 : Int32) (x4 : Int32) (σ : MS) (hM : M_letter_48 N  x2 x4 σ = some (r, σ')) (H : Heap) (locs : List Loc) (hW : WdM D dA h A s σ H locs) (ls : Array Slot) (hl : lv_has ls 5 [(0, .ref (h 0)), (2, .int x2), (4, .int x4)]) : W p l e rm_letter s m args below meth c H locs 0 0 (MQ below (QM D dA h A σ' (some (.int r))) args s 0 0 A) (F0 m 48 ls [.ref (h 0)]) := by
  have hx := C.1.1
  have hb := C.1.2.1
  have hown := C.1.2.2.2.2.1
  have hT := C.1.2.2.2.2.2.1
  unfold M_letter_48 at hM
  refine lv_iconst (pc := 48) (v := 1) hx hb dM_letter_48 (by decide) ?_
  refine lv_goto (pc := 49) (tgt := 53) hx hb dM_letter_49 (by decide) ?_
  exact bM_letter_53 N  C  _ _ _ _ hM _ _ hW _ (lv_sub hl [0, 1, 2] rfl)
def M_letter_24 (N : Nat) (x2 : Int32) (x3 : Int32) (t0 : Int32) (σ : MS) : Option (Int32 × MS) :=
  (if x3 < 0 then M_letter_48 N  x2 t0 σ else (if x2 < 0 then M_letter_48 N  x2 t0 σ else cr (M_plain N t0 σ) (fun r1 => (if x2 < (r1 - t0) then M_letter_53 N  x2 t0 (0 : Int32) σ else M_letter_48 N  x2 t0 σ))))
set_option maxHeartbeats 4000000 in
set_option maxRecDepth 100000 in
theorem bM_letter_24 (N : Nat)  {r : Int32} {σ' : MS} (C : CxM p s m args meth c cM_letter 5 (some .char) D dA A) (x2 : Int32) (x3 : Int32) (t0 : Int32) (σ : MS) (hM : M_letter_24 N  x2 x3 t0 σ = some (r, σ')) (H : Heap) (locs : List Loc) (hW : WdM D dA h A s σ H locs) (ls : Array Slot) (hl : lv_has ls 5 [(0, .ref (h 0)), (2, .int x2), (3, .int x3)]) : W p l e rm_letter s m args below meth c H locs 0 0 (MQ below (QM D dA h A σ' (some (.int r))) args s 0 0 A) (F0 m 24 ls [.int t0]) := by
  have hx := C.1.1
  have hb := C.1.2.1
  have hown := C.1.2.2.2.2.1
  have hT := C.1.2.2.2.2.2.1
  unfold M_letter_24 at hM
  refine lv_istore (pc := 24) (lv' := [(4, .int t0), (0, .ref (h 0)), (2, .int x2), (3, .int x3)]) hx hb dM_letter_24 hl (by decide) rfl (fun ls hl => ?_)
  refine lv_aload_n (pc := 26) hx hb dM_letter_26 rfl (lv_at hl 1 rfl) ?_
  refine lv_iload_n (pc := 27) hx hb dM_letter_27 rfl (lv_at hl 3 rfl) ?_
  refine lv_if_lt (pc := 28) (tgt := 48) hx hb dM_letter_28 (by decide) (fun hc => ?_) (fun hc => ?_)
  · replace hM := it_t hc hM
    exact bM_letter_48 N  C  _ _ _ hM _ _ hW _ (lv_sub hl [1, 2, 0] rfl)
  · replace hM := it_f hc hM
    refine lv_iload_n (pc := 31) hx hb dM_letter_31 rfl (lv_at hl 2 rfl) ?_
    refine lv_if_lt (pc := 32) (tgt := 48) hx hb dM_letter_32 (by decide) (fun hc => ?_) (fun hc => ?_)
    · replace hM := it_t hc hM
      exact bM_letter_48 N  C  _ _ _ hM _ _ hW _ (lv_sub hl [1, 2, 0] rfl)
    · replace hM := it_f hc hM
      refine lv_iload_n (pc := 35) hx hb dM_letter_35 rfl (lv_at hl 2 rfl) ?_
      refine lv_aload_n (pc := 36) hx hb dM_letter_36 rfl (lv_at hl 1 rfl) ?_
      refine lv_iload (pc := 37) hx hb dM_letter_37 (lv_at hl 0 rfl) ?_
      obtain ⟨r1, hr1, hM⟩ := cr_some hM
      refine x_callRi (pc := 39) C hW (kM_plain l D dA h N t0 _ hr1) gM_plain_387 ⟨rfl, by decide, by decide, by decide +kernel⟩ ⟨rfl, rfl⟩ ⟨by decide, by decide⟩ ⟨by decide, by decide⟩ (As := [.int t0]) (n := 1) rfl hl.1 rfl (Nat.le_of_ble_eq_true rfl) dM_letter_39 ?_
      refine lv_iload (pc := 42) hx hb dM_letter_42 (lv_at hl 0 rfl) ?_
      refine lv_isub (pc := 44) hx hb dM_letter_44 ?_
      refine lv_icmp_lt (pc := 45) (tgt := 52) hx hb dM_letter_45 (by decide) (fun hc => ?_) (fun hc => ?_)
      · replace hM := it_t hc hM
        refine lv_iconst (pc := 52) (v := 0) hx hb dM_letter_52 (by decide) ?_
        exact bM_letter_53 N  C  _ _ _ _ hM _ _ hW _ (lv_sub hl [1, 2, 0] rfl)
      · replace hM := it_f hc hM
        exact bM_letter_48 N  C  _ _ _ hM _ _ hW _ (lv_sub hl [1, 2, 0] rfl)
def M_letter (N : Nat) (x1 : Int32) (x2 : Int32) (σ : MS) : Option (Int32 × MS) :=
  cr (M_labelAt N x1 σ) (fun r1 => (if 0 ≤ r1 then gd (inB r1 2060) (M_letter_24 N  x2 r1 ((σ.2 5 r1.toNatClampNeg) &&& (8191 : Int32)) σ) else M_letter_24 N  x2 r1 (0 : Int32) σ))
set_option maxHeartbeats 4000000 in
set_option maxRecDepth 100000 in
theorem bM_letter_0 (N : Nat)  {r : Int32} {σ' : MS} (C : CxM p s m args meth c cM_letter 5 (some .char) D dA A) (x1 : Int32) (x2 : Int32) (σ : MS) (hM : M_letter N  x1 x2 σ = some (r, σ')) (H : Heap) (locs : List Loc) (hW : WdM D dA h A s σ H locs) (ls : Array Slot) (hl : lv_has ls 5 [(0, .ref (h 0)), (1, .int x1), (2, .int x2)]) : W p l e rm_letter s m args below meth c H locs 0 0 (MQ below (QM D dA h A σ' (some (.int r))) args s 0 0 A) (F0 m 0 ls []) := by
  have hx := C.1.1
  have hb := C.1.2.1
  have hown := C.1.2.2.2.2.1
  have hT := C.1.2.2.2.2.2.1
  unfold M_letter at hM
  refine lv_aload_n (pc := 0) hx hb dM_letter_0 rfl (lv_at hl 0 rfl) ?_
  refine lv_iload_n (pc := 1) hx hb dM_letter_1 rfl (lv_at hl 1 rfl) ?_
  obtain ⟨r1, hr1, hM⟩ := cr_some hM
  refine x_callRi (pc := 2) C hW (kM_labelAt l D dA h N x1 _ hr1) gM_labelAt_737 ⟨rfl, by decide, by decide, by decide +kernel⟩ ⟨rfl, rfl⟩ ⟨by decide, by decide⟩ ⟨by decide, by decide⟩ (As := [.int x1]) (n := 1) rfl hl.1 rfl (Nat.le_of_ble_eq_true rfl) dM_letter_2 ?_
  refine lv_istore_n (pc := 5) (lv' := [(3, .int r1), (0, .ref (h 0)), (1, .int x1), (2, .int x2)]) hx hb dM_letter_5 rfl hl (by decide) rfl (fun ls hl => ?_)
  refine lv_iload_n (pc := 6) hx hb dM_letter_6 rfl (lv_at hl 0 rfl) ?_
  refine lv_if_ge (pc := 7) (tgt := 14) hx hb dM_letter_7 (by decide) (fun hc => ?_) (fun hc => ?_)
  · replace hM := it_t hc hM
    refine lv_aload_n (pc := 14) hx hb dM_letter_14 rfl (lv_at hl 1 rfl) ?_
    refine gM (pc := 15) C hW 14 (by decide) q_1671 rfl rfl dM_letter_15 ?_
    refine lv_iload_n (pc := 18) hx hb dM_letter_18 rfl (lv_at hl 0 rfl) ?_
    obtain ⟨hg2, hM⟩ := gd_some hM
    refine x_ldI (pc := 19) C hW 9 rfl hg2 dM_letter_19 ?_
    refine lv_sipush (pc := 20) (v := 8191) hx hb dM_letter_20 (by decide) ?_
    refine lv_iand (pc := 23) hx hb dM_letter_23 ?_
    exact bM_letter_24 N  C  _ _ _ _ hM _ _ hW _ (lv_sub hl [1, 3, 0] rfl)
  · replace hM := it_f hc hM
    refine lv_iconst (pc := 10) (v := 0) hx hb dM_letter_10 (by decide) ?_
    refine lv_goto (pc := 11) (tgt := 24) hx hb dM_letter_11 (by decide) ?_
    exact bM_letter_24 N  C  _ _ _ _ hM _ _ hW _ (lv_sub hl [1, 3, 0] rfl)
theorem kM_letter (l : Launch) (D : va_G) (dA : Nat → ClassId) (h : Nat → Nat) (N : Nat) (x1 : Int32) (x2 : Int32) (σ : MS) {r : Int32} {σ' : MS} (hM : M_letter N x1 x2 σ = some (r, σ')) : KM l D dA yM_letter cM_letter 5 (some .char) rm_letter h σ [.int x1, .int x2] (some (.int r)) σ' := x_enterM rfl (Nat.le_of_ble_eq_true rfl) (fun p e s m args below meth c A C hW ls hl => bM_letter_0 N C x1 x2 σ hM s.heap [] hW ls hl)
def M_line_49 (N : Nat) (t0 : Int32) (σ : MS) : Option (Int32 × MS) :=
  some (t0, σ)
set_option maxHeartbeats 4000000 in
set_option maxRecDepth 100000 in
theorem bM_line_49 (N : Nat)  {r : Int32} {σ' : MS} (C : CxM p s m args meth c cM_line 3 (some .int) D dA A) (t0 : Int32) (σ : MS) (hM : M_line_49 N  t0 σ = some (r, σ')) (H : Heap) (locs : List Loc) (hW : WdM D dA h A s σ H locs) (ls : Array Slot) (hl : lv_has ls 3 []) : W p l e rm_line s m args below meth c H locs 0 0 (MQ below (QM D dA h A σ' (some (.int r))) args s 0 0 A) (F0 m 49 ls [.int t0]) := by
  have hx := C.1.1
  have hb := C.1.2.1
  have hown := C.1.2.2.2.2.1
  have hT := C.1.2.2.2.2.2.1
  unfold M_line_49 at hM
  obtain ⟨rfl, rfl⟩ := sm_p hM
  exact x_retMi (pc := 49) C rfl hW dM_line_49
def M_line_26 (N : Nat) (t0 : Int32) (σ : MS) : Option (Int32 × MS) :=
  (if 0 ≤ t0 then gd (inB t0 1030) (cr (M_lineOf N ((σ.2 2 t0.toNatClampNeg) &&& (8191 : Int32)) σ) (fun r2 => M_line_49 N  r2 σ)) else M_line_49 N  (0 : Int32) σ)
set_option maxHeartbeats 4000000 in
set_option maxRecDepth 100000 in
theorem bM_line_26 (N : Nat)  {r : Int32} {σ' : MS} (C : CxM p s m args meth c cM_line 3 (some .int) D dA A) (t0 : Int32) (σ : MS) (hM : M_line_26 N  t0 σ = some (r, σ')) (H : Heap) (locs : List Loc) (hW : WdM D dA h A s σ H locs) (ls : Array Slot) (hl : lv_has ls 3 [(0, .ref (h 0))]) : W p l e rm_line s m args below meth c H locs 0 0 (MQ below (QM D dA h A σ' (some (.int r))) args s 0 0 A) (F0 m 26 ls [.int t0]) := by
  have hx := C.1.1
  have hb := C.1.2.1
  have hown := C.1.2.2.2.2.1
  have hT := C.1.2.2.2.2.2.1
  unfold M_line_26 at hM
  refine lv_istore_n (pc := 26) (lv' := [(2, .int t0), (0, .ref (h 0))]) hx hb dM_line_26 rfl hl (by decide) rfl (fun ls hl => ?_)
  refine lv_iload_n (pc := 27) hx hb dM_line_27 rfl (lv_at hl 0 rfl) ?_
  refine lv_if_ge (pc := 28) (tgt := 35) hx hb dM_line_28 (by decide) (fun hc => ?_) (fun hc => ?_)
  · replace hM := it_t hc hM
    refine lv_aload_n (pc := 35) hx hb dM_line_35 rfl (lv_at hl 1 rfl) ?_
    refine lv_aload_n (pc := 36) hx hb dM_line_36 rfl (lv_at hl 1 rfl) ?_
    refine gM (pc := 37) C hW 10 (by decide) q_1667 rfl rfl dM_line_37 ?_
    refine lv_iload_n (pc := 40) hx hb dM_line_40 rfl (lv_at hl 0 rfl) ?_
    obtain ⟨hg1, hM⟩ := gd_some hM
    refine x_ldI (pc := 41) C hW 6 rfl hg1 dM_line_41 ?_
    refine lv_sipush (pc := 42) (v := 8191) hx hb dM_line_42 (by decide) ?_
    refine lv_iand (pc := 45) hx hb dM_line_45 ?_
    obtain ⟨r2, hr2, hM⟩ := cr_some hM
    refine x_callRi (pc := 46) C hW (kM_lineOf l D dA h N ((σ.2 2 t0.toNatClampNeg) &&& (8191 : Int32)) _ hr2) gM_lineOf_724 ⟨rfl, by decide, by decide, by decide +kernel⟩ ⟨rfl, rfl⟩ ⟨by decide, by decide⟩ ⟨by decide, by decide⟩ (As := [.int ((σ.2 2 t0.toNatClampNeg) &&& (8191 : Int32))]) (n := 1) rfl hl.1 rfl (Nat.le_of_ble_eq_true rfl) dM_line_46 ?_
    exact bM_line_49 N  C  _ _ hM _ _ hW _ (lv_sub hl [] rfl)
  · replace hM := it_f hc hM
    refine lv_iconst (pc := 31) (v := 0) hx hb dM_line_31 (by decide) ?_
    refine lv_goto (pc := 32) (tgt := 49) hx hb dM_line_32 (by decide) ?_
    exact bM_line_49 N  C  _ _ hM _ _ hW _ (lv_sub hl [] rfl)
def M_line_17 (N : Nat)  (σ : MS) : Option (Int32 × MS) :=
  M_line_26 N  (-1 : Int32) σ
set_option maxHeartbeats 4000000 in
set_option maxRecDepth 100000 in
theorem bM_line_17 (N : Nat)  {r : Int32} {σ' : MS} (C : CxM p s m args meth c cM_line 3 (some .int) D dA A)  (σ : MS) (hM : M_line_17 N   σ = some (r, σ')) (H : Heap) (locs : List Loc) (hW : WdM D dA h A s σ H locs) (ls : Array Slot) (hl : lv_has ls 3 [(0, .ref (h 0))]) : W p l e rm_line s m args below meth c H locs 0 0 (MQ below (QM D dA h A σ' (some (.int r))) args s 0 0 A) (F0 m 17 ls []) := by
  have hx := C.1.1
  have hb := C.1.2.1
  have hown := C.1.2.2.2.2.1
  have hT := C.1.2.2.2.2.2.1
  unfold M_line_17 at hM
  refine lv_iconst (pc := 17) (v := -1) hx hb dM_line_17 (by decide) ?_
  refine lv_goto (pc := 18) (tgt := 26) hx hb dM_line_18 (by decide) ?_
  exact bM_line_26 N  C  _ _ hM _ _ hW _ (lv_sub hl [0] rfl)
def M_line (N : Nat) (x1 : Int32) (σ : MS) : Option (Int32 × MS) :=
  bnd (sF σ 0 (0 : Int32)) (fun σ1 => (if x1 < 0 then M_line_17 N  σ1 else cr (M_all  σ1) (fun r2 => (if x1 < r2 then cr (M_holder N x1 σ1) (fun r3 => M_line_26 N  r3 σ1) else M_line_17 N  σ1))))
set_option maxHeartbeats 4000000 in
set_option maxRecDepth 100000 in
theorem bM_line_0 (N : Nat)  {r : Int32} {σ' : MS} (C : CxM p s m args meth c cM_line 3 (some .int) D dA A) (x1 : Int32) (σ : MS) (hM : M_line N  x1 σ = some (r, σ')) (H : Heap) (locs : List Loc) (hW : WdM D dA h A s σ H locs) (ls : Array Slot) (hl : lv_has ls 3 [(0, .ref (h 0)), (1, .int x1)]) : W p l e rm_line s m args below meth c H locs 0 0 (MQ below (QM D dA h A σ' (some (.int r))) args s 0 0 A) (F0 m 0 ls []) := by
  have hx := C.1.1
  have hb := C.1.2.1
  have hown := C.1.2.2.2.2.1
  have hT := C.1.2.2.2.2.2.1
  unfold M_line at hM
  refine lv_aload_n (pc := 0) hx hb dM_line_0 rfl (lv_at hl 0 rfl) ?_
  refine lv_iconst (pc := 1) (v := 0) hx hb dM_line_1 (by decide) ?_
  refine pM (pc := 2) (ty := .int) C hW 3 0 (by decide) q_1660 rfl rfl (by decide +kernel) rfl rfl (st_thrown dA h _ _) dM_line_2 (fun H locs hW => ?_)
  obtain ⟨σ1, eσ1, hM⟩ := bnd_some hM
  rw [← eσ1] at hW
  refine lv_iload_n (pc := 5) hx hb dM_line_5 rfl (lv_at hl 1 rfl) ?_
  refine lv_if_lt (pc := 6) (tgt := 17) hx hb dM_line_6 (by decide) (fun hc => ?_) (fun hc => ?_)
  · replace hM := it_t hc hM
    exact bM_line_17 N  C   _ hM _ _ hW _ (lv_sub hl [0] rfl)
  · replace hM := it_f hc hM
    refine lv_iload_n (pc := 9) hx hb dM_line_9 rfl (lv_at hl 1 rfl) ?_
    refine lv_aload_n (pc := 10) hx hb dM_line_10 rfl (lv_at hl 0 rfl) ?_
    obtain ⟨r2, hr2, hM⟩ := cr_some hM
    refine x_callRi (pc := 11) C hW (kM_all l D dA h  _ hr2) gM_all_721 ⟨rfl, by decide, by decide, by decide +kernel⟩ ⟨rfl, rfl⟩ ⟨by decide, by decide⟩ ⟨by decide, by decide⟩ (As := []) (n := 0) rfl hl.1 rfl (Nat.le_of_ble_eq_true rfl) dM_line_11 ?_
    refine lv_icmp_lt (pc := 14) (tgt := 21) hx hb dM_line_14 (by decide) (fun hc => ?_) (fun hc => ?_)
    · replace hM := it_t hc hM
      refine lv_aload_n (pc := 21) hx hb dM_line_21 rfl (lv_at hl 0 rfl) ?_
      refine lv_iload_n (pc := 22) hx hb dM_line_22 rfl (lv_at hl 1 rfl) ?_
      obtain ⟨r3, hr3, hM⟩ := cr_some hM
      refine x_callRi (pc := 23) C hW (kM_holder l D dA h N x1 _ hr3) gM_holder_734 ⟨rfl, by decide, by decide, by decide +kernel⟩ ⟨rfl, rfl⟩ ⟨by decide, by decide⟩ ⟨by decide, by decide⟩ (As := [.int x1]) (n := 1) rfl hl.1 rfl (Nat.le_of_ble_eq_true rfl) dM_line_23 ?_
      exact bM_line_26 N  C  _ _ hM _ _ hW _ (lv_sub hl [0] rfl)
    · replace hM := it_f hc hM
      exact bM_line_17 N  C   _ hM _ _ hW _ (lv_sub hl [0] rfl)
theorem kM_line (l : Launch) (D : va_G) (dA : Nat → ClassId) (h : Nat → Nat) (N : Nat) (x1 : Int32) (σ : MS) {r : Int32} {σ' : MS} (hM : M_line N x1 σ = some (r, σ')) : KM l D dA yM_line cM_line 3 (some .int) rm_line h σ [.int x1] (some (.int r)) σ' := x_enterM rfl (Nat.le_of_ble_eq_true rfl) (fun p e s m args below meth c A C hW ls hl => bM_line_0 N C x1 σ hM s.heap [] hW ls hl)
end
