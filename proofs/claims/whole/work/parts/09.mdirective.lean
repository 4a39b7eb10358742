theorem q_1669 : (Jvm.Cond.fieldLink "LineAssemblerModel" (336 : Nat) "LineAssemblerModel" "bytes" "[I") ∈ lw_gd := u_6 (List.mem_of_getElem? (i := 229) (by decide +kernel)) (by decide +kernel)
theorem q_1683 : (Jvm.Cond.fieldLink "LineAssemblerModel" (643 : Nat) "LineAssemblerModel" "section" "I") ∈ lw_gd := u_7 (List.mem_of_getElem? (i := 3) (by decide +kernel)) (by decide +kernel)
theorem q_1905 : (Jvm.Cond.methodLink "LineAssemblerModel" (646 : Nat) ({ cls := "LineAssemblerModel", name := "constant", desc := "()V" } : Jvm.MethodName)) ∈ lw_gd := u_7 (List.mem_of_getElem? (i := 225) (by decide +kernel)) (by decide +kernel)
theorem q_1907 : (Jvm.Cond.instanceMethod ({ cls := "LineAssemblerModel", name := "constant", desc := "()V" } : Jvm.MethodName)) ∈ lw_gd := u_7 (List.mem_of_getElem? (i := 227) (by decide +kernel)) (by decide +kernel)
theorem q_1908 : (Jvm.Cond.code ({ cls := "LineAssemblerModel", name := "constant", desc := "()V" } : Jvm.MethodName) prog_14_method_69_code (4 : Nat) (Option.none : Option Jvm.ClassFile.FieldType)) ∈ lw_gd := u_7 (List.mem_of_getElem? (i := 228) (by decide +kernel)) (by decide +kernel)
theorem q_1972 : (Jvm.Cond.constant "LineAssemblerModel" (649 : Nat) (32768 : Int32)) ∈ lw_gd := u_8 (List.mem_of_getElem? (i := 52) (by decide +kernel)) (by decide +kernel)
theorem q_1973 : (Jvm.Cond.methodLink "LineAssemblerModel" (650 : Nat) ({ cls := "LineAssemblerModel", name := "quoted", desc := "(Z)V" } : Jvm.MethodName)) ∈ lw_gd := u_8 (List.mem_of_getElem? (i := 53) (by decide +kernel)) (by decide +kernel)
theorem q_1975 : (Jvm.Cond.instanceMethod ({ cls := "LineAssemblerModel", name := "quoted", desc := "(Z)V" } : Jvm.MethodName)) ∈ lw_gd := u_8 (List.mem_of_getElem? (i := 55) (by decide +kernel)) (by decide +kernel)
theorem q_1976 : (Jvm.Cond.code ({ cls := "LineAssemblerModel", name := "quoted", desc := "(Z)V" } : Jvm.MethodName) prog_14_method_70_code (4 : Nat) (Option.none : Option Jvm.ClassFile.FieldType)) ∈ lw_gd := u_8 (List.mem_of_getElem? (i := 56) (by decide +kernel)) (by decide +kernel)
theorem q_1981 : (Jvm.Cond.methodLink "LineAssemblerModel" (588 : Nat) ({ cls := "LineAssemblerModel", name := "isEnd", desc := "()Z" } : Jvm.MethodName)) ∈ lw_gd := u_8 (List.mem_of_getElem? (i := 61) (by decide +kernel)) (by decide +kernel)
theorem q_1983 : (Jvm.Cond.instanceMethod ({ cls := "LineAssemblerModel", name := "isEnd", desc := "()Z" } : Jvm.MethodName)) ∈ lw_gd := u_8 (List.mem_of_getElem? (i := 63) (by decide +kernel)) (by decide +kernel)
theorem q_1984 : (Jvm.Cond.code ({ cls := "LineAssemblerModel", name := "isEnd", desc := "()Z" } : Jvm.MethodName) prog_14_method_45_code (2 : Nat) (Option.some Jvm.ClassFile.FieldType.boolean)) ∈ lw_gd := u_8 (List.mem_of_getElem? (i := 64) (by decide +kernel)) (by decide +kernel)
theorem q_1997 : (Jvm.Cond.methodLink "LineAssemblerModel" (608 : Nat) ({ cls := "LineAssemblerModel", name := "jump", desc := "(I)V" } : Jvm.MethodName)) ∈ lw_gd := u_8 (List.mem_of_getElem? (i := 77) (by decide +kernel)) (by decide +kernel)
theorem q_1999 : (Jvm.Cond.instanceMethod ({ cls := "LineAssemblerModel", name := "jump", desc := "(I)V" } : Jvm.MethodName)) ∈ lw_gd := u_8 (List.mem_of_getElem? (i := 79) (by decide +kernel)) (by decide +kernel)
theorem q_2000 : (Jvm.Cond.code ({ cls := "LineAssemblerModel", name := "jump", desc := "(I)V" } : Jvm.MethodName) prog_14_method_57_code (3 : Nat) (Option.none : Option Jvm.ClassFile.FieldType)) ∈ lw_gd := u_8 (List.mem_of_getElem? (i := 80) (by decide +kernel)) (by decide +kernel)
theorem q_2014 : (Jvm.Cond.methodLink "LineAssemblerModel" (573 : Nat) ({ cls := "LineAssemblerModel", name := "shortJump", desc := "(I)I" } : Jvm.MethodName)) ∈ lw_gd := u_8 (List.mem_of_getElem? (i := 94) (by decide +kernel)) (by decide +kernel)
theorem q_2015 : (Jvm.Cond.static ({ cls := "LineAssemblerModel", name := "shortJump", desc := "(I)I" } : Jvm.MethodName)) ∈ lw_gd := u_8 (List.mem_of_getElem? (i := 95) (by decide +kernel)) (by decide +kernel)
theorem q_2016 : (Jvm.Cond.code ({ cls := "LineAssemblerModel", name := "shortJump", desc := "(I)I" } : Jvm.MethodName) prog_14_method_52_code (1 : Nat) (Option.some Jvm.ClassFile.FieldType.int)) ∈ lw_gd := u_8 (List.mem_of_getElem? (i := 96) (by decide +kernel)) (by decide +kernel)
theorem q_2027 : (Jvm.Cond.constant "LineAssemblerModel" (611 : Nat) (-1048576 : Int32)) ∈ lw_gd := u_8 (List.mem_of_getElem? (i := 107) (by decide +kernel)) (by decide +kernel)
theorem q_2050 : (Jvm.Cond.methodLink "LineAssemblerModel" (594 : Nat) ({ cls := "LineAssemblerModel", name := "within", desc := "(III)I" } : Jvm.MethodName)) ∈ lw_gd := u_8 (List.mem_of_getElem? (i := 130) (by decide +kernel)) (by decide +kernel)
theorem q_2052 : (Jvm.Cond.instanceMethod ({ cls := "LineAssemblerModel", name := "within", desc := "(III)I" } : Jvm.MethodName)) ∈ lw_gd := u_8 (List.mem_of_getElem? (i := 132) (by decide +kernel)) (by decide +kernel)
theorem q_2053 : (Jvm.Cond.code ({ cls := "LineAssemblerModel", name := "within", desc := "(III)I" } : Jvm.MethodName) prog_14_method_37_code (5 : Nat) (Option.some Jvm.ClassFile.FieldType.int)) ∈ lw_gd := u_8 (List.mem_of_getElem? (i := 133) (by decide +kernel)) (by decide +kernel)
theorem q_2054 : (Jvm.Cond.methodLink "LineAssemblerModel" (597 : Nat) ({ cls := "LineAssemblerModel", name := "bracketed", desc := "()I" } : Jvm.MethodName)) ∈ lw_gd := u_8 (List.mem_of_getElem? (i := 134) (by decide +kernel)) (by decide +kernel)
theorem q_2056 : (Jvm.Cond.instanceMethod ({ cls := "LineAssemblerModel", name := "bracketed", desc := "()I" } : Jvm.MethodName)) ∈ lw_gd := u_8 (List.mem_of_getElem? (i := 136) (by decide +kernel)) (by decide +kernel)
theorem q_2057 : (Jvm.Cond.code ({ cls := "LineAssemblerModel", name := "bracketed", desc := "()I" } : Jvm.MethodName) prog_14_method_44_code (2 : Nat) (Option.some Jvm.ClassFile.FieldType.int)) ∈ lw_gd := u_8 (List.mem_of_getElem? (i := 137) (by decide +kernel)) (by decide +kernel)
theorem q_2058 : (Jvm.Cond.constant "LineAssemblerModel" (600 : Nat) (1048575 : Int32)) ∈ lw_gd := u_8 (List.mem_of_getElem? (i := 138) (by decide +kernel)) (by decide +kernel)
theorem qs_72 : Cond.selects "LineAssemblerModel" (⟨"LineAssemblerModel", "constant", "()V"⟩ : MethodName) ⟨"LineAssemblerModel", "constant", "()V"⟩ ∈ lw_gd := lw_gds (List.mem_of_getElem? (i := 72) (by decide +kernel)) (by decide +kernel)
theorem qs_87 : Cond.selects "LineAssemblerModel" (⟨"LineAssemblerModel", "quoted", "(Z)V"⟩ : MethodName) ⟨"LineAssemblerModel", "quoted", "(Z)V"⟩ ∈ lw_gd := lw_gds (List.mem_of_getElem? (i := 87) (by decide +kernel)) (by decide +kernel)
theorem qs_89 : Cond.selects "LineAssemblerModel" (⟨"LineAssemblerModel", "isEnd", "()Z"⟩ : MethodName) ⟨"LineAssemblerModel", "isEnd", "()Z"⟩ ∈ lw_gd := lw_gds (List.mem_of_getElem? (i := 89) (by decide +kernel)) (by decide +kernel)
theorem qs_93 : Cond.selects "LineAssemblerModel" (⟨"LineAssemblerModel", "jump", "(I)V"⟩ : MethodName) ⟨"LineAssemblerModel", "jump", "(I)V"⟩ ∈ lw_gd := lw_gds (List.mem_of_getElem? (i := 93) (by decide +kernel)) (by decide +kernel)
theorem qs_102 : Cond.selects "LineAssemblerModel" (⟨"LineAssemblerModel", "within", "(III)I"⟩ : MethodName) ⟨"LineAssemblerModel", "within", "(III)I"⟩ ∈ lw_gd := lw_gds (List.mem_of_getElem? (i := 102) (by decide +kernel)) (by decide +kernel)
theorem qs_103 : Cond.selects "LineAssemblerModel" (⟨"LineAssemblerModel", "bracketed", "()I"⟩ : MethodName) ⟨"LineAssemblerModel", "bracketed", "()I"⟩ ∈ lw_gd := lw_gds (List.mem_of_getElem? (i := 103) (by decide +kernel)) (by decide +kernel)
abbrev cM_directive : ByteArray := prog_14_method_71_code
def yM_directive : MethodName := ⟨RM, "directive", "(II)V"⟩
abbrev rm_directive : Room := { frames := 10, cells := 0, slots := 0, locals := 228 }
theorem dM_directive_0 : decode cM_directive 0 = .ok (.iload_n 1, 1) := by decide +kernel
theorem dM_directive_1 : decode cM_directive 1 = .ok (.bipush 42, 2) := by decide +kernel
theorem dM_directive_3 : decode cM_directive 3 = .ok (.if_icmp .ge (14), 3) := by decide +kernel
theorem dM_directive_6 : decode cM_directive 6 = .ok (.aload_n 0, 1) := by decide +kernel
theorem dM_directive_7 : decode cM_directive 7 = .ok (.iload_n 1, 1) := by decide +kernel
theorem dM_directive_8 : decode cM_directive 8 = .ok (.bipush 40, 2) := by decide +kernel
theorem dM_directive_10 : decode cM_directive 10 = .ok (.isub, 1) := by decide +kernel
theorem dM_directive_11 : decode cM_directive 11 = .ok (.putfield 643, 3) := by decide +kernel
theorem dM_directive_14 : decode cM_directive 14 = .ok (.goto (171), 3) := by decide +kernel
theorem dM_directive_17 : decode cM_directive 17 = .ok (.iload_n 1, 1) := by decide +kernel
theorem dM_directive_18 : decode cM_directive 18 = .ok (.bipush 42, 2) := by decide +kernel
theorem dM_directive_20 : decode cM_directive 20 = .ok (.if_icmp .ne (10), 3) := by decide +kernel
theorem dM_directive_23 : decode cM_directive 23 = .ok (.aload_n 0, 1) := by decide +kernel
theorem dM_directive_24 : decode cM_directive 24 = .ok (.invokevirtual 646, 3) := by decide +kernel
theorem dM_directive_27 : decode cM_directive 27 = .ok (.goto (158), 3) := by decide +kernel
theorem dM_directive_30 : decode cM_directive 30 = .ok (.iload_n 1, 1) := by decide +kernel
theorem dM_directive_31 : decode cM_directive 31 = .ok (.bipush 48, 2) := by decide +kernel
theorem dM_directive_33 : decode cM_directive 33 = .ok (.if_icmp .ne (23), 3) := by decide +kernel
theorem dM_directive_36 : decode cM_directive 36 = .ok (.aload_n 0, 1) := by decide +kernel
theorem dM_directive_37 : decode cM_directive 37 = .ok (.dup, 1) := by decide +kernel
theorem dM_directive_38 : decode cM_directive 38 = .ok (.getfield 544, 3) := by decide +kernel
theorem dM_directive_41 : decode cM_directive 41 = .ok (.aload_n 0, 1) := by decide +kernel
theorem dM_directive_42 : decode cM_directive 42 = .ok (.iconst 0, 1) := by decide +kernel
theorem dM_directive_43 : decode cM_directive 43 = .ok (.ldc_w 649, 3) := by decide +kernel
theorem dM_directive_46 : decode cM_directive 46 = .ok (.invokevirtual 614, 3) := by decide +kernel
theorem dM_directive_49 : decode cM_directive 49 = .ok (.iadd, 1) := by decide +kernel
theorem dM_directive_50 : decode cM_directive 50 = .ok (.putfield 544, 3) := by decide +kernel
theorem dM_directive_53 : decode cM_directive 53 = .ok (.goto (132), 3) := by decide +kernel
theorem dM_directive_56 : decode cM_directive 56 = .ok (.iload_n 1, 1) := by decide +kernel
theorem dM_directive_57 : decode cM_directive 57 = .ok (.bipush 49, 2) := by decide +kernel
theorem dM_directive_59 : decode cM_directive 59 = .ok (.if_icmp .ne (26), 3) := by decide +kernel
theorem dM_directive_62 : decode cM_directive 62 = .ok (.aload_n 0, 1) := by decide +kernel
theorem dM_directive_63 : decode cM_directive 63 = .ok (.iconst 0, 1) := by decide +kernel
theorem dM_directive_64 : decode cM_directive 64 = .ok (.bipush 10, 2) := by decide +kernel
theorem dM_directive_66 : decode cM_directive 66 = .ok (.invokevirtual 614, 3) := by decide +kernel
theorem dM_directive_69 : decode cM_directive 69 = .ok (.istore_n 3, 1) := by decide +kernel
theorem dM_directive_70 : decode cM_directive 70 = .ok (.aload_n 0, 1) := by decide +kernel
theorem dM_directive_71 : decode cM_directive 71 = .ok (.getfield 336, 3) := by decide +kernel
theorem dM_directive_74 : decode cM_directive 74 = .ok (.aload_n 0, 1) := by decide +kernel
theorem dM_directive_75 : decode cM_directive 75 = .ok (.getfield 463, 3) := by decide +kernel
theorem dM_directive_78 : decode cM_directive 78 = .ok (.iconst (-1), 1) := by decide +kernel
theorem dM_directive_79 : decode cM_directive 79 = .ok (.iload_n 3, 1) := by decide +kernel
theorem dM_directive_80 : decode cM_directive 80 = .ok (.isub, 1) := by decide +kernel
theorem dM_directive_81 : decode cM_directive 81 = .ok (.iastore, 1) := by decide +kernel
theorem dM_directive_82 : decode cM_directive 82 = .ok (.goto (103), 3) := by decide +kernel
theorem dM_directive_85 : decode cM_directive 85 = .ok (.iconst 1, 1) := by decide +kernel
theorem dM_directive_86 : decode cM_directive 86 = .ok (.istore_n 3, 1) := by decide +kernel
theorem dM_directive_87 : decode cM_directive 87 = .ok (.iload_n 3, 1) := by decide +kernel
theorem dM_directive_88 : decode cM_directive 88 = .ok (.ifCond .eq (97), 3) := by decide +kernel
theorem dM_directive_91 : decode cM_directive 91 = .ok (.aload_n 0, 1) := by decide +kernel
theorem dM_directive_92 : decode cM_directive 92 = .ok (.getfield 420, 3) := by decide +kernel
theorem dM_directive_95 : decode cM_directive 95 = .ok (.ifCond .ne (90), 3) := by decide +kernel
theorem dM_directive_98 : decode cM_directive 98 = .ok (.iload_n 2, 1) := by decide +kernel
theorem dM_directive_99 : decode cM_directive 99 = .ok (.ifCond .ne (21), 3) := by decide +kernel
theorem dM_directive_102 : decode cM_directive 102 = .ok (.aload_n 0, 1) := by decide +kernel
theorem dM_directive_103 : decode cM_directive 103 = .ok (.iload_n 1, 1) := by decide +kernel
theorem dM_directive_104 : decode cM_directive 104 = .ok (.bipush 47, 2) := by decide +kernel
theorem dM_directive_106 : decode cM_directive 106 = .ok (.if_icmp .ne (7), 3) := by decide +kernel
theorem dM_directive_109 : decode cM_directive 109 = .ok (.iconst 1, 1) := by decide +kernel
theorem dM_directive_110 : decode cM_directive 110 = .ok (.goto (4), 3) := by decide +kernel
theorem dM_directive_113 : decode cM_directive 113 = .ok (.iconst 0, 1) := by decide +kernel
theorem dM_directive_114 : decode cM_directive 114 = .ok (.invokevirtual 650, 3) := by decide +kernel
theorem dM_directive_117 : decode cM_directive 117 = .ok (.goto (36), 3) := by decide +kernel
theorem dM_directive_120 : decode cM_directive 120 = .ok (.aload_n 0, 1) := by decide +kernel
theorem dM_directive_121 : decode cM_directive 121 = .ok (.invokevirtual 534, 3) := by decide +kernel
theorem dM_directive_124 : decode cM_directive 124 = .ok (.istore 4, 2) := by decide +kernel
theorem dM_directive_126 : decode cM_directive 126 = .ok (.iconst 0, 1) := by decide +kernel
theorem dM_directive_127 : decode cM_directive 127 = .ok (.istore 5, 2) := by decide +kernel
theorem dM_directive_129 : decode cM_directive 129 = .ok (.iload 5, 2) := by decide +kernel
theorem dM_directive_131 : decode cM_directive 131 = .ok (.iload_n 2, 1) := by decide +kernel
theorem dM_directive_132 : decode cM_directive 132 = .ok (.if_icmp .ge (21), 3) := by decide +kernel
theorem dM_directive_135 : decode cM_directive 135 = .ok (.aload_n 0, 1) := by decide +kernel
theorem dM_directive_136 : decode cM_directive 136 = .ok (.iload 4, 2) := by decide +kernel
theorem dM_directive_138 : decode cM_directive 138 = .ok (.bipush 8, 2) := by decide +kernel
theorem dM_directive_140 : decode cM_directive 140 = .ok (.iload 5, 2) := by decide +kernel
theorem dM_directive_142 : decode cM_directive 142 = .ok (.imul, 1) := by decide +kernel
theorem dM_directive_143 : decode cM_directive 143 = .ok (.ishr, 1) := by decide +kernel
theorem dM_directive_144 : decode cM_directive 144 = .ok (.invokevirtual 553, 3) := by decide +kernel
theorem dM_directive_147 : decode cM_directive 147 = .ok (.iinc 5 (1), 3) := by decide +kernel
theorem dM_directive_150 : decode cM_directive 150 = .ok (.goto (-21), 3) := by decide +kernel
theorem dM_directive_153 : decode cM_directive 153 = .ok (.aload_n 0, 1) := by decide +kernel
theorem dM_directive_154 : decode cM_directive 154 = .ok (.getfield 420, 3) := by decide +kernel
theorem dM_directive_157 : decode cM_directive 157 = .ok (.ifCond .ne (23), 3) := by decide +kernel
theorem dM_directive_160 : decode cM_directive 160 = .ok (.aload_n 0, 1) := by decide +kernel
theorem dM_directive_161 : decode cM_directive 161 = .ok (.invokevirtual 588, 3) := by decide +kernel
theorem dM_directive_164 : decode cM_directive 164 = .ok (.ifCond .ne (16), 3) := by decide +kernel
theorem dM_directive_167 : decode cM_directive 167 = .ok (.aload_n 0, 1) := by decide +kernel
theorem dM_directive_168 : decode cM_directive 168 = .ok (.bipush 44, 2) := by decide +kernel
theorem dM_directive_170 : decode cM_directive 170 = .ok (.invokevirtual 515, 3) := by decide +kernel
theorem dM_directive_173 : decode cM_directive 173 = .ok (.ifCond .eq (7), 3) := by decide +kernel
theorem dM_directive_176 : decode cM_directive 176 = .ok (.iconst 1, 1) := by decide +kernel
theorem dM_directive_177 : decode cM_directive 177 = .ok (.goto (4), 3) := by decide +kernel
theorem dM_directive_180 : decode cM_directive 180 = .ok (.iconst 0, 1) := by decide +kernel
theorem dM_directive_181 : decode cM_directive 181 = .ok (.istore_n 3, 1) := by decide +kernel
theorem dM_directive_182 : decode cM_directive 182 = .ok (.goto (-95), 3) := by decide +kernel
theorem dM_directive_185 : decode cM_directive 185 = .ok (.return_, 1) := by decide +kernel
abbrev cM_shortJump : ByteArray := prog_14_method_52_code
def yM_shortJump : MethodName := ⟨RM, "shortJump", "(I)I"⟩
abbrev rm_shortJump : Room := { frames := 1, cells := 0, slots := 0, locals := 23 }
theorem dM_shortJump_0 : decode cM_shortJump 0 = .ok (.iload_n 0, 1) := by decide +kernel
theorem dM_shortJump_1 : decode cM_shortJump 1 = .ok (.bipush 11, 2) := by decide +kernel
theorem dM_shortJump_3 : decode cM_shortJump 3 = .ok (.bipush 11, 2) := by decide +kernel
theorem dM_shortJump_5 : decode cM_shortJump 5 = .ok (.bipush 12, 2) := by decide +kernel
theorem dM_shortJump_7 : decode cM_shortJump 7 = .ok (.invokestatic 559, 3) := by decide +kernel
theorem dM_shortJump_10 : decode cM_shortJump 10 = .ok (.iload_n 0, 1) := by decide +kernel
theorem dM_shortJump_11 : decode cM_shortJump 11 = .ok (.iconst 4, 1) := by decide +kernel
theorem dM_shortJump_12 : decode cM_shortJump 12 = .ok (.iconst 4, 1) := by decide +kernel
theorem dM_shortJump_13 : decode cM_shortJump 13 = .ok (.bipush 11, 2) := by decide +kernel
theorem dM_shortJump_15 : decode cM_shortJump 15 = .ok (.invokestatic 559, 3) := by decide +kernel
theorem dM_shortJump_18 : decode cM_shortJump 18 = .ok (.ior, 1) := by decide +kernel
theorem dM_shortJump_19 : decode cM_shortJump 19 = .ok (.iload_n 0, 1) := by decide +kernel
theorem dM_shortJump_20 : decode cM_shortJump 20 = .ok (.bipush 9, 2) := by decide +kernel
theorem dM_shortJump_22 : decode cM_shortJump 22 = .ok (.bipush 8, 2) := by decide +kernel
theorem dM_shortJump_24 : decode cM_shortJump 24 = .ok (.bipush 9, 2) := by decide +kernel
theorem dM_shortJump_26 : decode cM_shortJump 26 = .ok (.invokestatic 559, 3) := by decide +kernel
theorem dM_shortJump_29 : decode cM_shortJump 29 = .ok (.ior, 1) := by decide +kernel
theorem dM_shortJump_30 : decode cM_shortJump 30 = .ok (.iload_n 0, 1) := by decide +kernel
theorem dM_shortJump_31 : decode cM_shortJump 31 = .ok (.bipush 10, 2) := by decide +kernel
theorem dM_shortJump_33 : decode cM_shortJump 33 = .ok (.bipush 10, 2) := by decide +kernel
theorem dM_shortJump_35 : decode cM_shortJump 35 = .ok (.bipush 8, 2) := by decide +kernel
theorem dM_shortJump_37 : decode cM_shortJump 37 = .ok (.invokestatic 559, 3) := by decide +kernel
theorem dM_shortJump_40 : decode cM_shortJump 40 = .ok (.ior, 1) := by decide +kernel
theorem dM_shortJump_41 : decode cM_shortJump 41 = .ok (.iload_n 0, 1) := by decide +kernel
theorem dM_shortJump_42 : decode cM_shortJump 42 = .ok (.bipush 6, 2) := by decide +kernel
theorem dM_shortJump_44 : decode cM_shortJump 44 = .ok (.bipush 6, 2) := by decide +kernel
theorem dM_shortJump_46 : decode cM_shortJump 46 = .ok (.bipush 7, 2) := by decide +kernel
theorem dM_shortJump_48 : decode cM_shortJump 48 = .ok (.invokestatic 559, 3) := by decide +kernel
theorem dM_shortJump_51 : decode cM_shortJump 51 = .ok (.ior, 1) := by decide +kernel
theorem dM_shortJump_52 : decode cM_shortJump 52 = .ok (.iload_n 0, 1) := by decide +kernel
theorem dM_shortJump_53 : decode cM_shortJump 53 = .ok (.bipush 7, 2) := by decide +kernel
theorem dM_shortJump_55 : decode cM_shortJump 55 = .ok (.bipush 7, 2) := by decide +kernel
theorem dM_shortJump_57 : decode cM_shortJump 57 = .ok (.bipush 6, 2) := by decide +kernel
theorem dM_shortJump_59 : decode cM_shortJump 59 = .ok (.invokestatic 559, 3) := by decide +kernel
theorem dM_shortJump_62 : decode cM_shortJump 62 = .ok (.ior, 1) := by decide +kernel
theorem dM_shortJump_63 : decode cM_shortJump 63 = .ok (.iload_n 0, 1) := by decide +kernel
theorem dM_shortJump_64 : decode cM_shortJump 64 = .ok (.iconst 3, 1) := by decide +kernel
theorem dM_shortJump_65 : decode cM_shortJump 65 = .ok (.iconst 1, 1) := by decide +kernel
theorem dM_shortJump_66 : decode cM_shortJump 66 = .ok (.iconst 3, 1) := by decide +kernel
theorem dM_shortJump_67 : decode cM_shortJump 67 = .ok (.invokestatic 559, 3) := by decide +kernel
theorem dM_shortJump_70 : decode cM_shortJump 70 = .ok (.ior, 1) := by decide +kernel
theorem dM_shortJump_71 : decode cM_shortJump 71 = .ok (.iload_n 0, 1) := by decide +kernel
theorem dM_shortJump_72 : decode cM_shortJump 72 = .ok (.iconst 5, 1) := by decide +kernel
theorem dM_shortJump_73 : decode cM_shortJump 73 = .ok (.iconst 5, 1) := by decide +kernel
theorem dM_shortJump_74 : decode cM_shortJump 74 = .ok (.iconst 2, 1) := by decide +kernel
theorem dM_shortJump_75 : decode cM_shortJump 75 = .ok (.invokestatic 559, 3) := by decide +kernel
theorem dM_shortJump_78 : decode cM_shortJump 78 = .ok (.ior, 1) := by decide +kernel
theorem dM_shortJump_79 : decode cM_shortJump 79 = .ok (.ireturn, 1) := by decide +kernel
abbrev cM_jump : ByteArray := prog_14_method_57_code
def yM_jump : MethodName := ⟨RM, "jump", "(I)V"⟩
abbrev rm_jump : Room := { frames := 9, cells := 0, slots := 0, locals := 208 }
theorem dM_jump_0 : decode cM_jump 0 = .ok (.aload_n 0, 1) := by decide +kernel
theorem dM_jump_1 : decode cM_jump 1 = .ok (.iconst 1, 1) := by decide +kernel
theorem dM_jump_2 : decode cM_jump 2 = .ok (.iconst 0, 1) := by decide +kernel
theorem dM_jump_3 : decode cM_jump 3 = .ok (.invokevirtual 570, 3) := by decide +kernel
theorem dM_jump_6 : decode cM_jump 6 = .ok (.istore_n 2, 1) := by decide +kernel
theorem dM_jump_7 : decode cM_jump 7 = .ok (.aload_n 0, 1) := by decide +kernel
theorem dM_jump_8 : decode cM_jump 8 = .ok (.invokevirtual 563, 3) := by decide +kernel
theorem dM_jump_11 : decode cM_jump 11 = .ok (.ifCond .ne (30), 3) := by decide +kernel
theorem dM_jump_14 : decode cM_jump 14 = .ok (.aload_n 0, 1) := by decide +kernel
theorem dM_jump_15 : decode cM_jump 15 = .ok (.iconst 1, 1) := by decide +kernel
theorem dM_jump_16 : decode cM_jump 16 = .ok (.iload_n 1, 1) := by decide +kernel
theorem dM_jump_17 : decode cM_jump 17 = .ok (.iconst 1, 1) := by decide +kernel
theorem dM_jump_18 : decode cM_jump 18 = .ok (.if_icmp .ne (7), 3) := by decide +kernel
theorem dM_jump_21 : decode cM_jump 21 = .ok (.iconst 1, 1) := by decide +kernel
theorem dM_jump_22 : decode cM_jump 22 = .ok (.goto (4), 3) := by decide +kernel
theorem dM_jump_25 : decode cM_jump 25 = .ok (.iconst 5, 1) := by decide +kernel
theorem dM_jump_26 : decode cM_jump 26 = .ok (.bipush 13, 2) := by decide +kernel
theorem dM_jump_28 : decode cM_jump 28 = .ok (.ishl, 1) := by decide +kernel
theorem dM_jump_29 : decode cM_jump 29 = .ok (.ior, 1) := by decide +kernel
theorem dM_jump_30 : decode cM_jump 30 = .ok (.iload_n 2, 1) := by decide +kernel
theorem dM_jump_31 : decode cM_jump 31 = .ok (.invokestatic 573, 3) := by decide +kernel
theorem dM_jump_34 : decode cM_jump 34 = .ok (.ior, 1) := by decide +kernel
theorem dM_jump_35 : decode cM_jump 35 = .ok (.invokevirtual 556, 3) := by decide +kernel
theorem dM_jump_38 : decode cM_jump 38 = .ok (.goto (19), 3) := by decide +kernel
theorem dM_jump_41 : decode cM_jump 41 = .ok (.aload_n 0, 1) := by decide +kernel
theorem dM_jump_42 : decode cM_jump 42 = .ok (.bipush 111, 2) := by decide +kernel
theorem dM_jump_44 : decode cM_jump 44 = .ok (.iload_n 1, 1) := by decide +kernel
theorem dM_jump_45 : decode cM_jump 45 = .ok (.bipush 7, 2) := by decide +kernel
theorem dM_jump_47 : decode cM_jump 47 = .ok (.ishl, 1) := by decide +kernel
theorem dM_jump_48 : decode cM_jump 48 = .ok (.ior, 1) := by decide +kernel
theorem dM_jump_49 : decode cM_jump 49 = .ok (.iload_n 2, 1) := by decide +kernel
theorem dM_jump_50 : decode cM_jump 50 = .ok (.invokestatic 576, 3) := by decide +kernel
theorem dM_jump_53 : decode cM_jump 53 = .ok (.ior, 1) := by decide +kernel
theorem dM_jump_54 : decode cM_jump 54 = .ok (.invokevirtual 579, 3) := by decide +kernel
theorem dM_jump_57 : decode cM_jump 57 = .ok (.return_, 1) := by decide +kernel
abbrev cM_jumps : ByteArray := prog_14_method_62_code
def yM_jumps : MethodName := ⟨RM, "jumps", "(II)V"⟩
abbrev rm_jumps : Room := { frames := 10, cells := 0, slots := 0, locals := 230 }
theorem dM_jumps_0 : decode cM_jumps 0 = .ok (.aload_n 0, 1) := by decide +kernel
theorem dM_jumps_1 : decode cM_jumps 1 = .ok (.getfield 384, 3) := by decide +kernel
theorem dM_jumps_4 : decode cM_jumps 4 = .ok (.istore_n 3, 1) := by decide +kernel
theorem dM_jumps_5 : decode cM_jumps 5 = .ok (.aload_n 0, 1) := by decide +kernel
theorem dM_jumps_6 : decode cM_jumps 6 = .ok (.invokevirtual 426, 3) := by decide +kernel
theorem dM_jumps_9 : decode cM_jumps 9 = .ok (.aload_n 0, 1) := by decide +kernel
theorem dM_jumps_10 : decode cM_jumps 10 = .ok (.getfield 375, 3) := by decide +kernel
theorem dM_jumps_13 : decode cM_jumps 13 = .ok (.iconst 1, 1) := by decide +kernel
theorem dM_jumps_14 : decode cM_jumps 14 = .ok (.if_icmp .ne (22), 3) := by decide +kernel
theorem dM_jumps_17 : decode cM_jumps 17 = .ok (.aload_n 0, 1) := by decide +kernel
theorem dM_jumps_18 : decode cM_jumps 18 = .ok (.aload_n 0, 1) := by decide +kernel
theorem dM_jumps_19 : decode cM_jumps 19 = .ok (.getfield 378, 3) := by decide +kernel
theorem dM_jumps_22 : decode cM_jumps 22 = .ok (.aload_n 0, 1) := by decide +kernel
theorem dM_jumps_23 : decode cM_jumps 23 = .ok (.getfield 381, 3) := by decide +kernel
theorem dM_jumps_26 : decode cM_jumps 26 = .ok (.invokevirtual 486, 3) := by decide +kernel
theorem dM_jumps_29 : decode cM_jumps 29 = .ok (.ifCond .lt (7), 3) := by decide +kernel
theorem dM_jumps_32 : decode cM_jumps 32 = .ok (.iconst 1, 1) := by decide +kernel
theorem dM_jumps_33 : decode cM_jumps 33 = .ok (.goto (4), 3) := by decide +kernel
theorem dM_jumps_36 : decode cM_jumps 36 = .ok (.iconst 0, 1) := by decide +kernel
theorem dM_jumps_37 : decode cM_jumps 37 = .ok (.istore 4, 2) := by decide +kernel
theorem dM_jumps_39 : decode cM_jumps 39 = .ok (.aload_n 0, 1) := by decide +kernel
theorem dM_jumps_40 : decode cM_jumps 40 = .ok (.iload_n 3, 1) := by decide +kernel
theorem dM_jumps_41 : decode cM_jumps 41 = .ok (.putfield 384, 3) := by decide +kernel
theorem dM_jumps_44 : decode cM_jumps 44 = .ok (.iload_n 1, 1) := by decide +kernel
theorem dM_jumps_45 : decode cM_jumps 45 = .ok (.bipush 34, 2) := by decide +kernel
theorem dM_jumps_47 : decode cM_jumps 47 = .ok (.if_icmp .eq (8), 3) := by decide +kernel
theorem dM_jumps_50 : decode cM_jumps 50 = .ok (.iload 4, 2) := by decide +kernel
theorem dM_jumps_52 : decode cM_jumps 52 = .ok (.ifCond .ne (19), 3) := by decide +kernel
theorem dM_jumps_55 : decode cM_jumps 55 = .ok (.aload_n 0, 1) := by decide +kernel
theorem dM_jumps_56 : decode cM_jumps 56 = .ok (.iload_n 1, 1) := by decide +kernel
theorem dM_jumps_57 : decode cM_jumps 57 = .ok (.bipush 34, 2) := by decide +kernel
theorem dM_jumps_59 : decode cM_jumps 59 = .ok (.if_icmp .ne (7), 3) := by decide +kernel
theorem dM_jumps_62 : decode cM_jumps 62 = .ok (.iload_n 2, 1) := by decide +kernel
theorem dM_jumps_63 : decode cM_jumps 63 = .ok (.goto (4), 3) := by decide +kernel
theorem dM_jumps_66 : decode cM_jumps 66 = .ok (.iconst 1, 1) := by decide +kernel
theorem dM_jumps_67 : decode cM_jumps 67 = .ok (.invokevirtual 608, 3) := by decide +kernel
theorem dM_jumps_70 : decode cM_jumps 70 = .ok (.return_, 1) := by decide +kernel
theorem dM_jumps_71 : decode cM_jumps 71 = .ok (.aload_n 0, 1) := by decide +kernel
theorem dM_jumps_72 : decode cM_jumps 72 = .ok (.invokevirtual 541, 3) := by decide +kernel
theorem dM_jumps_75 : decode cM_jumps 75 = .ok (.istore 5, 2) := by decide +kernel
theorem dM_jumps_77 : decode cM_jumps 77 = .ok (.aload_n 0, 1) := by decide +kernel
theorem dM_jumps_78 : decode cM_jumps 78 = .ok (.invokevirtual 591, 3) := by decide +kernel
theorem dM_jumps_81 : decode cM_jumps 81 = .ok (.ifCond .ne (4), 3) := by decide +kernel
theorem dM_jumps_84 : decode cM_jumps 84 = .ok (.return_, 1) := by decide +kernel
theorem dM_jumps_85 : decode cM_jumps 85 = .ok (.aload_n 0, 1) := by decide +kernel
theorem dM_jumps_86 : decode cM_jumps 86 = .ok (.invokevirtual 534, 3) := by decide +kernel
theorem dM_jumps_89 : decode cM_jumps 89 = .ok (.aload_n 0, 1) := by decide +kernel
theorem dM_jumps_90 : decode cM_jumps 90 = .ok (.getfield 495, 3) := by decide +kernel
theorem dM_jumps_93 : decode cM_jumps 93 = .ok (.isub, 1) := by decide +kernel
theorem dM_jumps_94 : decode cM_jumps 94 = .ok (.istore 6, 2) := by decide +kernel
theorem dM_jumps_96 : decode cM_jumps 96 = .ok (.aload_n 0, 1) := by decide +kernel
theorem dM_jumps_97 : decode cM_jumps 97 = .ok (.iload 6, 2) := by decide +kernel
theorem dM_jumps_99 : decode cM_jumps 99 = .ok (.ldc_w 611, 3) := by decide +kernel
theorem dM_jumps_102 : decode cM_jumps 102 = .ok (.ldc_w 566, 3) := by decide +kernel
theorem dM_jumps_105 : decode cM_jumps 105 = .ok (.iconst 2, 1) := by decide +kernel
theorem dM_jumps_106 : decode cM_jumps 106 = .ok (.invokevirtual 537, 3) := by decide +kernel
theorem dM_jumps_109 : decode cM_jumps 109 = .ok (.aload_n 0, 1) := by decide +kernel
theorem dM_jumps_110 : decode cM_jumps 110 = .ok (.iload_n 2, 1) := by decide +kernel
theorem dM_jumps_111 : decode cM_jumps 111 = .ok (.iload 5, 2) := by decide +kernel
theorem dM_jumps_113 : decode cM_jumps 113 = .ok (.bipush 7, 2) := by decide +kernel
theorem dM_jumps_115 : decode cM_jumps 115 = .ok (.ishl, 1) := by decide +kernel
theorem dM_jumps_116 : decode cM_jumps 116 = .ok (.ior, 1) := by decide +kernel
theorem dM_jumps_117 : decode cM_jumps 117 = .ok (.iload 6, 2) := by decide +kernel
theorem dM_jumps_119 : decode cM_jumps 119 = .ok (.invokestatic 576, 3) := by decide +kernel
theorem dM_jumps_122 : decode cM_jumps 122 = .ok (.ior, 1) := by decide +kernel
theorem dM_jumps_123 : decode cM_jumps 123 = .ok (.invokevirtual 579, 3) := by decide +kernel
theorem dM_jumps_126 : decode cM_jumps 126 = .ok (.return_, 1) := by decide +kernel
abbrev cM_bracketed : ByteArray := prog_14_method_44_code
def yM_bracketed : MethodName := ⟨RM, "bracketed", "()I"⟩
abbrev rm_bracketed : Room := { frames := 6, cells := 0, slots := 0, locals := 135 }
theorem dM_bracketed_0 : decode cM_bracketed 0 = .ok (.aload_n 0, 1) := by decide +kernel
theorem dM_bracketed_1 : decode cM_bracketed 1 = .ok (.bipush 40, 2) := by decide +kernel
theorem dM_bracketed_3 : decode cM_bracketed 3 = .ok (.invokevirtual 515, 3) := by decide +kernel
theorem dM_bracketed_6 : decode cM_bracketed 6 = .ok (.ifCond .eq (10), 3) := by decide +kernel
theorem dM_bracketed_9 : decode cM_bracketed 9 = .ok (.aload_n 0, 1) := by decide +kernel
theorem dM_bracketed_10 : decode cM_bracketed 10 = .ok (.invokevirtual 541, 3) := by decide +kernel
theorem dM_bracketed_13 : decode cM_bracketed 13 = .ok (.goto (4), 3) := by decide +kernel
theorem dM_bracketed_16 : decode cM_bracketed 16 = .ok (.iconst 0, 1) := by decide +kernel
theorem dM_bracketed_17 : decode cM_bracketed 17 = .ok (.istore_n 1, 1) := by decide +kernel
theorem dM_bracketed_18 : decode cM_bracketed 18 = .ok (.aload_n 0, 1) := by decide +kernel
theorem dM_bracketed_19 : decode cM_bracketed 19 = .ok (.getfield 420, 3) := by decide +kernel
theorem dM_bracketed_22 : decode cM_bracketed 22 = .ok (.ifCond .ne (10), 3) := by decide +kernel
theorem dM_bracketed_25 : decode cM_bracketed 25 = .ok (.aload_n 0, 1) := by decide +kernel
theorem dM_bracketed_26 : decode cM_bracketed 26 = .ok (.bipush 41, 2) := by decide +kernel
theorem dM_bracketed_28 : decode cM_bracketed 28 = .ok (.invokevirtual 515, 3) := by decide +kernel
theorem dM_bracketed_31 : decode cM_bracketed 31 = .ok (.pop, 1) := by decide +kernel
theorem dM_bracketed_32 : decode cM_bracketed 32 = .ok (.iload_n 1, 1) := by decide +kernel
theorem dM_bracketed_33 : decode cM_bracketed 33 = .ok (.ireturn, 1) := by decide +kernel
abbrev cM_within : ByteArray := prog_14_method_37_code
def yM_within : MethodName := ⟨RM, "within", "(III)I"⟩
abbrev rm_within : Room := { frames := 8, cells := 0, slots := 0, locals := 182 }
theorem dM_within_0 : decode cM_within 0 = .ok (.aload_n 0, 1) := by decide +kernel
theorem dM_within_1 : decode cM_within 1 = .ok (.invokevirtual 534, 3) := by decide +kernel
theorem dM_within_4 : decode cM_within 4 = .ok (.istore 4, 2) := by decide +kernel
theorem dM_within_6 : decode cM_within 6 = .ok (.aload_n 0, 1) := by decide +kernel
theorem dM_within_7 : decode cM_within 7 = .ok (.iload 4, 2) := by decide +kernel
theorem dM_within_9 : decode cM_within 9 = .ok (.iload_n 1, 1) := by decide +kernel
theorem dM_within_10 : decode cM_within 10 = .ok (.iload_n 2, 1) := by decide +kernel
theorem dM_within_11 : decode cM_within 11 = .ok (.iload_n 3, 1) := by decide +kernel
theorem dM_within_12 : decode cM_within 12 = .ok (.invokevirtual 537, 3) := by decide +kernel
theorem dM_within_15 : decode cM_within 15 = .ok (.iload 4, 2) := by decide +kernel
theorem dM_within_17 : decode cM_within 17 = .ok (.ireturn, 1) := by decide +kernel
abbrev cM_longs : ByteArray := prog_14_method_60_code
def yM_longs : MethodName := ⟨RM, "longs", "(II)V"⟩
abbrev rm_longs : Room := { frames := 9, cells := 0, slots := 0, locals := 206 }
theorem dM_longs_0 : decode cM_longs 0 = .ok (.aload_n 0, 1) := by decide +kernel
theorem dM_longs_1 : decode cM_longs 1 = .ok (.invokevirtual 541, 3) := by decide +kernel
theorem dM_longs_4 : decode cM_longs 4 = .ok (.istore_n 3, 1) := by decide +kernel
theorem dM_longs_5 : decode cM_longs 5 = .ok (.iload_n 1, 1) := by decide +kernel
theorem dM_longs_6 : decode cM_longs 6 = .ok (.bipush 30, 2) := by decide +kernel
theorem dM_longs_8 : decode cM_longs 8 = .ok (.if_icmp .ne (32), 3) := by decide +kernel
theorem dM_longs_11 : decode cM_longs 11 = .ok (.aload_n 0, 1) := by decide +kernel
theorem dM_longs_12 : decode cM_longs 12 = .ok (.getfield 420, 3) := by decide +kernel
theorem dM_longs_15 : decode cM_longs 15 = .ok (.ifCond .ne (25), 3) := by decide +kernel
theorem dM_longs_18 : decode cM_longs 18 = .ok (.aload_n 0, 1) := by decide +kernel
theorem dM_longs_19 : decode cM_longs 19 = .ok (.invokevirtual 588, 3) := by decide +kernel
theorem dM_longs_22 : decode cM_longs 22 = .ok (.ifCond .eq (18), 3) := by decide +kernel
theorem dM_longs_25 : decode cM_longs 25 = .ok (.aload_n 0, 1) := by decide +kernel
theorem dM_longs_26 : decode cM_longs 26 = .ok (.iload_n 2, 1) := by decide +kernel
theorem dM_longs_27 : decode cM_longs 27 = .ok (.sipush 128, 3) := by decide +kernel
theorem dM_longs_30 : decode cM_longs 30 = .ok (.ior, 1) := by decide +kernel
theorem dM_longs_31 : decode cM_longs 31 = .ok (.iload_n 3, 1) := by decide +kernel
theorem dM_longs_32 : decode cM_longs 32 = .ok (.bipush 15, 2) := by decide +kernel
theorem dM_longs_34 : decode cM_longs 34 = .ok (.ishl, 1) := by decide +kernel
theorem dM_longs_35 : decode cM_longs 35 = .ok (.ior, 1) := by decide +kernel
theorem dM_longs_36 : decode cM_longs 36 = .ok (.invokevirtual 579, 3) := by decide +kernel
theorem dM_longs_39 : decode cM_longs 39 = .ok (.return_, 1) := by decide +kernel
theorem dM_longs_40 : decode cM_longs 40 = .ok (.iload_n 1, 1) := by decide +kernel
theorem dM_longs_41 : decode cM_longs 41 = .ok (.bipush 11, 2) := by decide +kernel
theorem dM_longs_43 : decode cM_longs 43 = .ok (.if_icmp .ne (14), 3) := by decide +kernel
theorem dM_longs_46 : decode cM_longs 46 = .ok (.aload_n 0, 1) := by decide +kernel
theorem dM_longs_47 : decode cM_longs 47 = .ok (.iload_n 2, 1) := by decide +kernel
theorem dM_longs_48 : decode cM_longs 48 = .ok (.iload_n 3, 1) := by decide +kernel
theorem dM_longs_49 : decode cM_longs 49 = .ok (.bipush 7, 2) := by decide +kernel
theorem dM_longs_51 : decode cM_longs 51 = .ok (.ishl, 1) := by decide +kernel
theorem dM_longs_52 : decode cM_longs 52 = .ok (.ior, 1) := by decide +kernel
theorem dM_longs_53 : decode cM_longs 53 = .ok (.invokevirtual 579, 3) := by decide +kernel
theorem dM_longs_56 : decode cM_longs 56 = .ok (.return_, 1) := by decide +kernel
theorem dM_longs_57 : decode cM_longs 57 = .ok (.aload_n 0, 1) := by decide +kernel
theorem dM_longs_58 : decode cM_longs 58 = .ok (.invokevirtual 591, 3) := by decide +kernel
theorem dM_longs_61 : decode cM_longs 61 = .ok (.ifCond .ne (4), 3) := by decide +kernel
theorem dM_longs_64 : decode cM_longs 64 = .ok (.return_, 1) := by decide +kernel
theorem dM_longs_65 : decode cM_longs 65 = .ok (.iload_n 1, 1) := by decide +kernel
theorem dM_longs_66 : decode cM_longs 66 = .ok (.iconst 4, 1) := by decide +kernel
theorem dM_longs_67 : decode cM_longs 67 = .ok (.if_icmp .eq (14), 3) := by decide +kernel
theorem dM_longs_70 : decode cM_longs 70 = .ok (.iload_n 1, 1) := by decide +kernel
theorem dM_longs_71 : decode cM_longs 71 = .ok (.iconst 5, 1) := by decide +kernel
theorem dM_longs_72 : decode cM_longs 72 = .ok (.if_icmp .eq (9), 3) := by decide +kernel
theorem dM_longs_75 : decode cM_longs 75 = .ok (.iload_n 1, 1) := by decide +kernel
theorem dM_longs_76 : decode cM_longs 76 = .ok (.bipush 30, 2) := by decide +kernel
theorem dM_longs_78 : decode cM_longs 78 = .ok (.if_icmp .ne (99), 3) := by decide +kernel
theorem dM_longs_81 : decode cM_longs 81 = .ok (.aload_n 0, 1) := by decide +kernel
theorem dM_longs_82 : decode cM_longs 82 = .ok (.sipush (-2048), 3) := by decide +kernel
theorem dM_longs_85 : decode cM_longs 85 = .ok (.sipush 2047, 3) := by decide +kernel
theorem dM_longs_88 : decode cM_longs 88 = .ok (.iconst 1, 1) := by decide +kernel
theorem dM_longs_89 : decode cM_longs 89 = .ok (.invokevirtual 594, 3) := by decide +kernel
theorem dM_longs_92 : decode cM_longs 92 = .ok (.istore 4, 2) := by decide +kernel
theorem dM_longs_94 : decode cM_longs 94 = .ok (.aload_n 0, 1) := by decide +kernel
theorem dM_longs_95 : decode cM_longs 95 = .ok (.getfield 420, 3) := by decide +kernel
theorem dM_longs_98 : decode cM_longs 98 = .ok (.ifCond .ne (10), 3) := by decide +kernel
theorem dM_longs_101 : decode cM_longs 101 = .ok (.aload_n 0, 1) := by decide +kernel
theorem dM_longs_102 : decode cM_longs 102 = .ok (.invokevirtual 597, 3) := by decide +kernel
theorem dM_longs_105 : decode cM_longs 105 = .ok (.goto (4), 3) := by decide +kernel
theorem dM_longs_108 : decode cM_longs 108 = .ok (.iconst 0, 1) := by decide +kernel
theorem dM_longs_109 : decode cM_longs 109 = .ok (.istore 5, 2) := by decide +kernel
theorem dM_longs_111 : decode cM_longs 111 = .ok (.aload_n 0, 1) := by decide +kernel
theorem dM_longs_112 : decode cM_longs 112 = .ok (.iload_n 1, 1) := by decide +kernel
theorem dM_longs_113 : decode cM_longs 113 = .ok (.iconst 5, 1) := by decide +kernel
theorem dM_longs_114 : decode cM_longs 114 = .ok (.if_icmp .ne (39), 3) := by decide +kernel
theorem dM_longs_117 : decode cM_longs 117 = .ok (.iload_n 2, 1) := by decide +kernel
theorem dM_longs_118 : decode cM_longs 118 = .ok (.iload 4, 2) := by decide +kernel
theorem dM_longs_120 : decode cM_longs 120 = .ok (.bipush 11, 2) := by decide +kernel
theorem dM_longs_122 : decode cM_longs 122 = .ok (.iconst 5, 1) := by decide +kernel
theorem dM_longs_123 : decode cM_longs 123 = .ok (.bipush 25, 2) := by decide +kernel
theorem dM_longs_125 : decode cM_longs 125 = .ok (.invokestatic 559, 3) := by decide +kernel
theorem dM_longs_128 : decode cM_longs 128 = .ok (.ior, 1) := by decide +kernel
theorem dM_longs_129 : decode cM_longs 129 = .ok (.iload 4, 2) := by decide +kernel
theorem dM_longs_131 : decode cM_longs 131 = .ok (.iconst 4, 1) := by decide +kernel
theorem dM_longs_132 : decode cM_longs 132 = .ok (.iconst 0, 1) := by decide +kernel
theorem dM_longs_133 : decode cM_longs 133 = .ok (.bipush 7, 2) := by decide +kernel
theorem dM_longs_135 : decode cM_longs 135 = .ok (.invokestatic 559, 3) := by decide +kernel
theorem dM_longs_138 : decode cM_longs 138 = .ok (.ior, 1) := by decide +kernel
theorem dM_longs_139 : decode cM_longs 139 = .ok (.iload 5, 2) := by decide +kernel
theorem dM_longs_141 : decode cM_longs 141 = .ok (.bipush 15, 2) := by decide +kernel
theorem dM_longs_143 : decode cM_longs 143 = .ok (.ishl, 1) := by decide +kernel
theorem dM_longs_144 : decode cM_longs 144 = .ok (.ior, 1) := by decide +kernel
theorem dM_longs_145 : decode cM_longs 145 = .ok (.iload_n 3, 1) := by decide +kernel
theorem dM_longs_146 : decode cM_longs 146 = .ok (.bipush 20, 2) := by decide +kernel
theorem dM_longs_148 : decode cM_longs 148 = .ok (.ishl, 1) := by decide +kernel
theorem dM_longs_149 : decode cM_longs 149 = .ok (.ior, 1) := by decide +kernel
theorem dM_longs_150 : decode cM_longs 150 = .ok (.goto (21), 3) := by decide +kernel
theorem dM_longs_153 : decode cM_longs 153 = .ok (.iload_n 2, 1) := by decide +kernel
theorem dM_longs_154 : decode cM_longs 154 = .ok (.iload_n 3, 1) := by decide +kernel
theorem dM_longs_155 : decode cM_longs 155 = .ok (.bipush 7, 2) := by decide +kernel
theorem dM_longs_157 : decode cM_longs 157 = .ok (.ishl, 1) := by decide +kernel
theorem dM_longs_158 : decode cM_longs 158 = .ok (.ior, 1) := by decide +kernel
theorem dM_longs_159 : decode cM_longs 159 = .ok (.iload 5, 2) := by decide +kernel
theorem dM_longs_161 : decode cM_longs 161 = .ok (.bipush 15, 2) := by decide +kernel
theorem dM_longs_163 : decode cM_longs 163 = .ok (.ishl, 1) := by decide +kernel
theorem dM_longs_164 : decode cM_longs 164 = .ok (.ior, 1) := by decide +kernel
theorem dM_longs_165 : decode cM_longs 165 = .ok (.iload 4, 2) := by decide +kernel
theorem dM_longs_167 : decode cM_longs 167 = .ok (.bipush 20, 2) := by decide +kernel
theorem dM_longs_169 : decode cM_longs 169 = .ok (.ishl, 1) := by decide +kernel
theorem dM_longs_170 : decode cM_longs 170 = .ok (.ior, 1) := by decide +kernel
theorem dM_longs_171 : decode cM_longs 171 = .ok (.invokevirtual 579, 3) := by decide +kernel
theorem dM_longs_174 : decode cM_longs 174 = .ok (.goto (210), 3) := by decide +kernel
theorem dM_longs_177 : decode cM_longs 177 = .ok (.iload_n 1, 1) := by decide +kernel
theorem dM_longs_178 : decode cM_longs 178 = .ok (.bipush 6, 2) := by decide +kernel
theorem dM_longs_180 : decode cM_longs 180 = .ok (.if_icmp .ne (29), 3) := by decide +kernel
theorem dM_longs_183 : decode cM_longs 183 = .ok (.aload_n 0, 1) := by decide +kernel
theorem dM_longs_184 : decode cM_longs 184 = .ok (.iload_n 2, 1) := by decide +kernel
theorem dM_longs_185 : decode cM_longs 185 = .ok (.iload_n 3, 1) := by decide +kernel
theorem dM_longs_186 : decode cM_longs 186 = .ok (.bipush 7, 2) := by decide +kernel
theorem dM_longs_188 : decode cM_longs 188 = .ok (.ishl, 1) := by decide +kernel
theorem dM_longs_189 : decode cM_longs 189 = .ok (.ior, 1) := by decide +kernel
theorem dM_longs_190 : decode cM_longs 190 = .ok (.aload_n 0, 1) := by decide +kernel
theorem dM_longs_191 : decode cM_longs 191 = .ok (.iconst 0, 1) := by decide +kernel
theorem dM_longs_192 : decode cM_longs 192 = .ok (.ldc_w 600, 3) := by decide +kernel
theorem dM_longs_195 : decode cM_longs 195 = .ok (.iconst 1, 1) := by decide +kernel
theorem dM_longs_196 : decode cM_longs 196 = .ok (.invokevirtual 594, 3) := by decide +kernel
theorem dM_longs_199 : decode cM_longs 199 = .ok (.bipush 12, 2) := by decide +kernel
theorem dM_longs_201 : decode cM_longs 201 = .ok (.ishl, 1) := by decide +kernel
theorem dM_longs_202 : decode cM_longs 202 = .ok (.ior, 1) := by decide +kernel
theorem dM_longs_203 : decode cM_longs 203 = .ok (.invokevirtual 579, 3) := by decide +kernel
theorem dM_longs_206 : decode cM_longs 206 = .ok (.goto (178), 3) := by decide +kernel
theorem dM_longs_209 : decode cM_longs 209 = .ok (.iload_n 1, 1) := by decide +kernel
theorem dM_longs_210 : decode cM_longs 210 = .ok (.bipush 10, 2) := by decide +kernel
theorem dM_longs_212 : decode cM_longs 212 = .ok (.if_icmp .ne (24), 3) := by decide +kernel
theorem dM_longs_215 : decode cM_longs 215 = .ok (.aload_n 0, 1) := by decide +kernel
theorem dM_longs_216 : decode cM_longs 216 = .ok (.iload_n 2, 1) := by decide +kernel
theorem dM_longs_217 : decode cM_longs 217 = .ok (.iload_n 3, 1) := by decide +kernel
theorem dM_longs_218 : decode cM_longs 218 = .ok (.bipush 7, 2) := by decide +kernel
theorem dM_longs_220 : decode cM_longs 220 = .ok (.ishl, 1) := by decide +kernel
theorem dM_longs_221 : decode cM_longs 221 = .ok (.ior, 1) := by decide +kernel
theorem dM_longs_222 : decode cM_longs 222 = .ok (.aload_n 0, 1) := by decide +kernel
theorem dM_longs_223 : decode cM_longs 223 = .ok (.invokevirtual 597, 3) := by decide +kernel
theorem dM_longs_226 : decode cM_longs 226 = .ok (.bipush 15, 2) := by decide +kernel
theorem dM_longs_228 : decode cM_longs 228 = .ok (.ishl, 1) := by decide +kernel
theorem dM_longs_229 : decode cM_longs 229 = .ok (.ior, 1) := by decide +kernel
theorem dM_longs_230 : decode cM_longs 230 = .ok (.invokevirtual 579, 3) := by decide +kernel
theorem dM_longs_233 : decode cM_longs 233 = .ok (.goto (151), 3) := by decide +kernel
theorem dM_longs_236 : decode cM_longs 236 = .ok (.aload_n 0, 1) := by decide +kernel
theorem dM_longs_237 : decode cM_longs 237 = .ok (.invokevirtual 541, 3) := by decide +kernel
theorem dM_longs_240 : decode cM_longs 240 = .ok (.istore 4, 2) := by decide +kernel
theorem dM_longs_242 : decode cM_longs 242 = .ok (.aload_n 0, 1) := by decide +kernel
theorem dM_longs_243 : decode cM_longs 243 = .ok (.invokevirtual 591, 3) := by decide +kernel
theorem dM_longs_246 : decode cM_longs 246 = .ok (.ifCond .ne (4), 3) := by decide +kernel
theorem dM_longs_249 : decode cM_longs 249 = .ok (.return_, 1) := by decide +kernel
theorem dM_longs_250 : decode cM_longs 250 = .ok (.iload_n 1, 1) := by decide +kernel
theorem dM_longs_251 : decode cM_longs 251 = .ok (.iconst 1, 1) := by decide +kernel
theorem dM_longs_252 : decode cM_longs 252 = .ok (.if_icmp .ne (30), 3) := by decide +kernel
theorem dM_longs_255 : decode cM_longs 255 = .ok (.aload_n 0, 1) := by decide +kernel
theorem dM_longs_256 : decode cM_longs 256 = .ok (.iload_n 2, 1) := by decide +kernel
theorem dM_longs_257 : decode cM_longs 257 = .ok (.iload_n 3, 1) := by decide +kernel
theorem dM_longs_258 : decode cM_longs 258 = .ok (.bipush 7, 2) := by decide +kernel
theorem dM_longs_260 : decode cM_longs 260 = .ok (.ishl, 1) := by decide +kernel
theorem dM_longs_261 : decode cM_longs 261 = .ok (.ior, 1) := by decide +kernel
theorem dM_longs_262 : decode cM_longs 262 = .ok (.iload 4, 2) := by decide +kernel
theorem dM_longs_264 : decode cM_longs 264 = .ok (.bipush 15, 2) := by decide +kernel
theorem dM_longs_266 : decode cM_longs 266 = .ok (.ishl, 1) := by decide +kernel
theorem dM_longs_267 : decode cM_longs 267 = .ok (.ior, 1) := by decide +kernel
theorem dM_longs_268 : decode cM_longs 268 = .ok (.aload_n 0, 1) := by decide +kernel
theorem dM_longs_269 : decode cM_longs 269 = .ok (.invokevirtual 541, 3) := by decide +kernel
theorem dM_longs_272 : decode cM_longs 272 = .ok (.bipush 20, 2) := by decide +kernel
theorem dM_longs_274 : decode cM_longs 274 = .ok (.ishl, 1) := by decide +kernel
theorem dM_longs_275 : decode cM_longs 275 = .ok (.ior, 1) := by decide +kernel
theorem dM_longs_276 : decode cM_longs 276 = .ok (.invokevirtual 579, 3) := by decide +kernel
theorem dM_longs_279 : decode cM_longs 279 = .ok (.goto (105), 3) := by decide +kernel
theorem dM_longs_282 : decode cM_longs 282 = .ok (.iload_n 1, 1) := by decide +kernel
theorem dM_longs_283 : decode cM_longs 283 = .ok (.iconst 2, 1) := by decide +kernel
theorem dM_longs_284 : decode cM_longs 284 = .ok (.if_icmp .ne (37), 3) := by decide +kernel
theorem dM_longs_287 : decode cM_longs 287 = .ok (.aload_n 0, 1) := by decide +kernel
theorem dM_longs_288 : decode cM_longs 288 = .ok (.iload_n 2, 1) := by decide +kernel
theorem dM_longs_289 : decode cM_longs 289 = .ok (.iload_n 3, 1) := by decide +kernel
theorem dM_longs_290 : decode cM_longs 290 = .ok (.bipush 7, 2) := by decide +kernel
theorem dM_longs_292 : decode cM_longs 292 = .ok (.ishl, 1) := by decide +kernel
theorem dM_longs_293 : decode cM_longs 293 = .ok (.ior, 1) := by decide +kernel
theorem dM_longs_294 : decode cM_longs 294 = .ok (.iload 4, 2) := by decide +kernel
theorem dM_longs_296 : decode cM_longs 296 = .ok (.bipush 15, 2) := by decide +kernel
theorem dM_longs_298 : decode cM_longs 298 = .ok (.ishl, 1) := by decide +kernel
theorem dM_longs_299 : decode cM_longs 299 = .ok (.ior, 1) := by decide +kernel
theorem dM_longs_300 : decode cM_longs 300 = .ok (.aload_n 0, 1) := by decide +kernel
theorem dM_longs_301 : decode cM_longs 301 = .ok (.sipush (-2048), 3) := by decide +kernel
theorem dM_longs_304 : decode cM_longs 304 = .ok (.sipush 2047, 3) := by decide +kernel
theorem dM_longs_307 : decode cM_longs 307 = .ok (.iconst 1, 1) := by decide +kernel
theorem dM_longs_308 : decode cM_longs 308 = .ok (.invokevirtual 594, 3) := by decide +kernel
theorem dM_longs_311 : decode cM_longs 311 = .ok (.bipush 20, 2) := by decide +kernel
theorem dM_longs_313 : decode cM_longs 313 = .ok (.ishl, 1) := by decide +kernel
theorem dM_longs_314 : decode cM_longs 314 = .ok (.ior, 1) := by decide +kernel
theorem dM_longs_315 : decode cM_longs 315 = .ok (.invokevirtual 579, 3) := by decide +kernel
theorem dM_longs_318 : decode cM_longs 318 = .ok (.goto (66), 3) := by decide +kernel
theorem dM_longs_321 : decode cM_longs 321 = .ok (.iload_n 1, 1) := by decide +kernel
theorem dM_longs_322 : decode cM_longs 322 = .ok (.iconst 3, 1) := by decide +kernel
theorem dM_longs_323 : decode cM_longs 323 = .ok (.if_icmp .ne (37), 3) := by decide +kernel
theorem dM_longs_326 : decode cM_longs 326 = .ok (.aload_n 0, 1) := by decide +kernel
theorem dM_longs_327 : decode cM_longs 327 = .ok (.iload_n 2, 1) := by decide +kernel
theorem dM_longs_328 : decode cM_longs 328 = .ok (.iload_n 3, 1) := by decide +kernel
theorem dM_longs_329 : decode cM_longs 329 = .ok (.bipush 7, 2) := by decide +kernel
theorem dM_longs_331 : decode cM_longs 331 = .ok (.ishl, 1) := by decide +kernel
theorem dM_longs_332 : decode cM_longs 332 = .ok (.ior, 1) := by decide +kernel
theorem dM_longs_333 : decode cM_longs 333 = .ok (.iload 4, 2) := by decide +kernel
theorem dM_longs_335 : decode cM_longs 335 = .ok (.bipush 15, 2) := by decide +kernel
theorem dM_longs_337 : decode cM_longs 337 = .ok (.ishl, 1) := by decide +kernel
theorem dM_longs_338 : decode cM_longs 338 = .ok (.ior, 1) := by decide +kernel
theorem dM_longs_339 : decode cM_longs 339 = .ok (.aload_n 0, 1) := by decide +kernel
theorem dM_longs_340 : decode cM_longs 340 = .ok (.iconst 0, 1) := by decide +kernel
theorem dM_longs_341 : decode cM_longs 341 = .ok (.bipush 31, 2) := by decide +kernel
theorem dM_longs_343 : decode cM_longs 343 = .ok (.iconst 1, 1) := by decide +kernel
theorem dM_longs_344 : decode cM_longs 344 = .ok (.invokevirtual 594, 3) := by decide +kernel
theorem dM_longs_347 : decode cM_longs 347 = .ok (.bipush 31, 2) := by decide +kernel
theorem dM_longs_349 : decode cM_longs 349 = .ok (.iand, 1) := by decide +kernel
theorem dM_longs_350 : decode cM_longs 350 = .ok (.bipush 20, 2) := by decide +kernel
theorem dM_longs_352 : decode cM_longs 352 = .ok (.ishl, 1) := by decide +kernel
theorem dM_longs_353 : decode cM_longs 353 = .ok (.ior, 1) := by decide +kernel
theorem dM_longs_354 : decode cM_longs 354 = .ok (.invokevirtual 579, 3) := by decide +kernel
theorem dM_longs_357 : decode cM_longs 357 = .ok (.goto (27), 3) := by decide +kernel
theorem dM_longs_360 : decode cM_longs 360 = .ok (.aload_n 0, 1) := by decide +kernel
theorem dM_longs_361 : decode cM_longs 361 = .ok (.iload_n 2, 1) := by decide +kernel
theorem dM_longs_362 : decode cM_longs 362 = .ok (.iload_n 3, 1) := by decide +kernel
theorem dM_longs_363 : decode cM_longs 363 = .ok (.bipush 7, 2) := by decide +kernel
theorem dM_longs_365 : decode cM_longs 365 = .ok (.ishl, 1) := by decide +kernel
theorem dM_longs_366 : decode cM_longs 366 = .ok (.ior, 1) := by decide +kernel
theorem dM_longs_367 : decode cM_longs 367 = .ok (.iload 4, 2) := by decide +kernel
theorem dM_longs_369 : decode cM_longs 369 = .ok (.bipush 20, 2) := by decide +kernel
theorem dM_longs_371 : decode cM_longs 371 = .ok (.ishl, 1) := by decide +kernel
theorem dM_longs_372 : decode cM_longs 372 = .ok (.ior, 1) := by decide +kernel
theorem dM_longs_373 : decode cM_longs 373 = .ok (.aload_n 0, 1) := by decide +kernel
theorem dM_longs_374 : decode cM_longs 374 = .ok (.invokevirtual 597, 3) := by decide +kernel
theorem dM_longs_377 : decode cM_longs 377 = .ok (.bipush 15, 2) := by decide +kernel
theorem dM_longs_379 : decode cM_longs 379 = .ok (.ishl, 1) := by decide +kernel
theorem dM_longs_380 : decode cM_longs 380 = .ok (.ior, 1) := by decide +kernel
theorem dM_longs_381 : decode cM_longs 381 = .ok (.invokevirtual 579, 3) := by decide +kernel
theorem dM_longs_384 : decode cM_longs 384 = .ok (.return_, 1) := by decide +kernel
theorem gM_bracketed_597 : GoodIn lw_gd (wsV RM 597 RM yM_bracketed (.code yM_bracketed cM_bracketed 2 (some .int) :: lw_gd)) := lw_GV q_2057 q_2054 q_2056 qs_103 q_23
theorem gM_constant_646 : GoodIn lw_gd (wsV RM 646 RM yM_constant (.code yM_constant cM_constant 4 none :: lw_gd)) := lw_GV q_1908 q_1905 q_1907 qs_72 q_23
theorem gM_isEnd_588 : GoodIn lw_gd (wsV RM 588 RM yM_isEnd (.code yM_isEnd cM_isEnd 2 (some .boolean) :: lw_gd)) := lw_GV q_1984 q_1981 q_1983 qs_89 q_23
theorem gM_jump_608 : GoodIn lw_gd (wsV RM 608 RM yM_jump (.code yM_jump cM_jump 3 none :: lw_gd)) := lw_GV q_2000 q_1997 q_1999 qs_93 q_23
theorem gM_quoted_650 : GoodIn lw_gd (wsV RM 650 RM yM_quoted (.code yM_quoted cM_quoted 4 none :: lw_gd)) := lw_GV q_1976 q_1973 q_1975 qs_87 q_23
theorem gM_shortJump_573 : GoodIn lw_gd (wsS RM 573 yM_shortJump (.code yM_shortJump cM_shortJump 1 (some .int) :: lw_gd)) := lw_GS q_2016 q_2014 q_2015 q_23
theorem gM_within_594 : GoodIn lw_gd (wsV RM 594 RM yM_within (.code yM_within cM_within 5 (some .int) :: lw_gd)) := lw_GV q_2053 q_2050 q_2052 qs_102 q_23
section
variable {p : Program} {l : Launch} {e : Env} {s : State} {m : MethodId} {args : Array Value} {below : List Frame} {meth : Method} {c : Code} {D : va_G} {dA : Nat → ClassId} {h : Nat → Nat} {A : Nat → Prop}
def M_directive_185 (N : Nat)  (σ : MS) : Option (Int32 × MS) :=
  some ((0 : Int32), σ)
set_option maxHeartbeats 4000000 in
set_option maxRecDepth 100000 in
theorem bM_directive_185 (N : Nat)  {r : Int32} {σ' : MS} (C : CxM p s m args meth c cM_directive 6 none D dA A)  (σ : MS) (hM : M_directive_185 N   σ = some (r, σ')) (H : Heap) (locs : List Loc) (hW : WdM D dA h A s σ H locs) (ls : Array Slot) (hl : lv_has ls 6 []) : W p l e rm_directive s m args below meth c H locs 0 0 (MQ below (QM D dA h A σ' none) args s 0 0 A) (F0 m 185 ls []) := by
  have hx := C.1.1
  have hb := C.1.2.1
  have hown := C.1.2.2.2.2.1
  have hT := C.1.2.2.2.2.2.1
  unfold M_directive_185 at hM
  obtain ⟨rfl, rfl⟩ := sm_p hM
  exact x_retMv (pc := 185) C rfl hW dM_directive_185
def M_directive_181 (N : Nat) (rec87 : Int32 → Int32 → Int32 → MS → Option (Int32 × MS)) (x1 : Int32) (x2 : Int32) (t0 : Int32) (σ : MS) : Option (Int32 × MS) :=
  rec87 x1 x2 t0 σ
set_option maxHeartbeats 4000000 in
set_option maxRecDepth 100000 in
theorem bM_directive_181 (N : Nat) (rec87 : Int32 → Int32 → Int32 → MS → Option (Int32 × MS)) {r : Int32} {σ' : MS} (C : CxM p s m args meth c cM_directive 6 none D dA A) (hrec87 : ∀ (x1 : Int32) (x2 : Int32) (x3 : Int32) (σ : MS), rec87 x1 x2 x3 σ = some (r, σ') → ∀ (H : Heap) (locs : List Loc), WdM D dA h A s σ H locs → ∀ (ls : Array Slot), lv_has ls 6 [(0, .ref (h 0)), (1, .int x1), (2, .int x2), (3, .int x3)] → W p l e rm_directive s m args below meth c H locs 0 0 (MQ below (QM D dA h A σ' none) args s 0 0 A) (F0 m 87 ls [])) (x1 : Int32) (x2 : Int32) (t0 : Int32) (σ : MS) (hM : M_directive_181 N rec87 x1 x2 t0 σ = some (r, σ')) (H : Heap) (locs : List Loc) (hW : WdM D dA h A s σ H locs) (ls : Array Slot) (hl : lv_has ls 6 [(0, .ref (h 0)), (1, .int x1), (2, .int x2)]) : W p l e rm_directive s m args below meth c H locs 0 0 (MQ below (QM D dA h A σ' none) args s 0 0 A) (F0 m 181 ls [.int t0]) := by
  have hx := C.1.1
  have hb := C.1.2.1
  have hown := C.1.2.2.2.2.1
  have hT := C.1.2.2.2.2.2.1
  unfold M_directive_181 at hM
  refine lv_istore_n (pc := 181) (lv' := [(3, .int t0), (0, .ref (h 0)), (1, .int x1), (2, .int x2)]) hx hb dM_directive_181 rfl hl (by decide) rfl (fun ls hl => ?_)
  refine lv_goto (pc := 182) (tgt := 87) hx hb dM_directive_182 (by decide) ?_
  exact hrec87 _ _ _ _ hM _ _ hW _ (lv_sub hl [1, 2, 3, 0] rfl)
def M_directive_180 (N : Nat) (rec87 : Int32 → Int32 → Int32 → MS → Option (Int32 × MS)) (x1 : Int32) (x2 : Int32) (σ : MS) : Option (Int32 × MS) :=
  M_directive_181 N rec87 x1 x2 (0 : Int32) σ
set_option maxHeartbeats 4000000 in
set_option maxRecDepth 100000 in
theorem bM_directive_180 (N : Nat) (rec87 : Int32 → Int32 → Int32 → MS → Option (Int32 × MS)) {r : Int32} {σ' : MS} (C : CxM p s m args meth c cM_directive 6 none D dA A) (hrec87 : ∀ (x1 : Int32) (x2 : Int32) (x3 : Int32) (σ : MS), rec87 x1 x2 x3 σ = some (r, σ') → ∀ (H : Heap) (locs : List Loc), WdM D dA h A s σ H locs → ∀ (ls : Array Slot), lv_has ls 6 [(0, .ref (h 0)), (1, .int x1), (2, .int x2), (3, .int x3)] → W p l e rm_directive s m args below meth c H locs 0 0 (MQ below (QM D dA h A σ' none) args s 0 0 A) (F0 m 87 ls [])) (x1 : Int32) (x2 : Int32) (σ : MS) (hM : M_directive_180 N rec87 x1 x2 σ = some (r, σ')) (H : Heap) (locs : List Loc) (hW : WdM D dA h A s σ H locs) (ls : Array Slot) (hl : lv_has ls 6 [(0, .ref (h 0)), (1, .int x1), (2, .int x2)]) : W p l e rm_directive s m args below meth c H locs 0 0 (MQ below (QM D dA h A σ' none) args s 0 0 A) (F0 m 180 ls []) := by
  have hx := C.1.1
  have hb := C.1.2.1
  have hown := C.1.2.2.2.2.1
  have hT := C.1.2.2.2.2.2.1
  unfold M_directive_180 at hM
  refine lv_iconst (pc := 180) (v := 0) hx hb dM_directive_180 (by decide) ?_
  exact bM_directive_181 N rec87 C hrec87 _ _ _ _ hM _ _ hW _ (lv_sub hl [0, 1, 2] rfl)
def M_directive_153 (N : Nat) (rec87 : Int32 → Int32 → Int32 → MS → Option (Int32 × MS)) (x1 : Int32) (x2 : Int32) (σ : MS) : Option (Int32 × MS) :=
  (if (σ.1 14) = 0 then cl (M_isEnd N σ) (fun r1 σ2 => (if r1 = 0 then cl (M_needs N (44 : Int32) σ2) (fun r3 σ4 => (if r3 = 0 then M_directive_180 N rec87 x1 x2 σ4 else M_directive_181 N rec87 x1 x2 (1 : Int32) σ4)) else M_directive_180 N rec87 x1 x2 σ2)) else M_directive_180 N rec87 x1 x2 σ)
set_option maxHeartbeats 4000000 in
set_option maxRecDepth 100000 in
theorem bM_directive_153 (N : Nat) (rec87 : Int32 → Int32 → Int32 → MS → Option (Int32 × MS)) {r : Int32} {σ' : MS} (C : CxM p s m args meth c cM_directive 6 none D dA A) (hrec87 : ∀ (x1 : Int32) (x2 : Int32) (x3 : Int32) (σ : MS), rec87 x1 x2 x3 σ = some (r, σ') → ∀ (H : Heap) (locs : List Loc), WdM D dA h A s σ H locs → ∀ (ls : Array Slot), lv_has ls 6 [(0, .ref (h 0)), (1, .int x1), (2, .int x2), (3, .int x3)] → W p l e rm_directive s m args below meth c H locs 0 0 (MQ below (QM D dA h A σ' none) args s 0 0 A) (F0 m 87 ls [])) (x1 : Int32) (x2 : Int32) (σ : MS) (hM : M_directive_153 N rec87 x1 x2 σ = some (r, σ')) (H : Heap) (locs : List Loc) (hW : WdM D dA h A s σ H locs) (ls : Array Slot) (hl : lv_has ls 6 [(0, .ref (h 0)), (1, .int x1), (2, .int x2)]) : W p l e rm_directive s m args below meth c H locs 0 0 (MQ below (QM D dA h A σ' none) args s 0 0 A) (F0 m 153 ls []) := by
  have hx := C.1.1
  have hb := C.1.2.1
  have hown := C.1.2.2.2.2.1
  have hT := C.1.2.2.2.2.2.1
  unfold M_directive_153 at hM
  refine lv_aload_n (pc := 153) hx hb dM_directive_153 rfl (lv_at hl 0 rfl) ?_
  refine gM (pc := 154) C hW 24 (by decide) q_1681 rfl rfl dM_directive_154 ?_
  refine lv_if_ne (pc := 157) (tgt := 180) hx hb dM_directive_157 (by decide) (fun hc => ?_) (fun hc => ?_)
  · replace hM := it_f hc hM
    exact bM_directive_180 N rec87 C hrec87 _ _ _ hM _ _ hW _ (lv_sub hl [0, 1, 2] rfl)
  · replace hM := it_t hc hM
    refine lv_aload_n (pc := 160) hx hb dM_directive_160 rfl (lv_at hl 0 rfl) ?_
    obtain ⟨r1, σ2, hr1, hM⟩ := cl_some hM
    refine x_callMi (pc := 161) C hW (kM_isEnd l D dA h N _ hr1) gM_isEnd_588 ⟨rfl, by decide, by decide, by decide +kernel⟩ ⟨rfl, rfl⟩ ⟨by decide, by decide⟩ ⟨by decide, by decide⟩ (As := []) (n := 0) rfl hl.1 rfl (Nat.le_of_ble_eq_true rfl) dM_directive_161 (fun H locs hW => ?_)
    refine lv_if_ne (pc := 164) (tgt := 180) hx hb dM_directive_164 (by decide) (fun hc => ?_) (fun hc => ?_)
    · replace hM := it_f hc hM
      exact bM_directive_180 N rec87 C hrec87 _ _ _ hM _ _ hW _ (lv_sub hl [0, 1, 2] rfl)
    · replace hM := it_t hc hM
      refine lv_aload_n (pc := 167) hx hb dM_directive_167 rfl (lv_at hl 0 rfl) ?_
      refine lv_bipush (pc := 168) (v := 44) hx hb dM_directive_168 (by decide) ?_
      obtain ⟨r3, σ4, hr3, hM⟩ := cl_some hM
      refine x_callMi (pc := 170) C hW (kM_needs l D dA h N (44 : Int32) _ hr3) gM_needs_515 ⟨rfl, by decide, by decide, by decide +kernel⟩ ⟨rfl, rfl⟩ ⟨by decide, by decide⟩ ⟨by decide, by decide⟩ (As := [.int (44 : Int32)]) (n := 1) rfl hl.1 rfl (Nat.le_of_ble_eq_true rfl) dM_directive_170 (fun H locs hW => ?_)
      refine lv_if_eq (pc := 173) (tgt := 180) hx hb dM_directive_173 (by decide) (fun hc => ?_) (fun hc => ?_)
      · replace hM := it_t hc hM
        exact bM_directive_180 N rec87 C hrec87 _ _ _ hM _ _ hW _ (lv_sub hl [0, 1, 2] rfl)
      · replace hM := it_f hc hM
        refine lv_iconst (pc := 176) (v := 1) hx hb dM_directive_176 (by decide) ?_
        refine lv_goto (pc := 177) (tgt := 181) hx hb dM_directive_177 (by decide) ?_
        exact bM_directive_181 N rec87 C hrec87 _ _ _ _ hM _ _ hW _ (lv_sub hl [0, 1, 2] rfl)
def M_directive_129 (N : Nat) (rec87 : Int32 → Int32 → Int32 → MS → Option (Int32 × MS)) : Nat → Int32 → Int32 → Int32 → Int32 → MS → Option (Int32 × MS)
  | 0 => fun _ _ _ _ _ => none
  | n + 1 => fun x1 x2 x4 x5 σ => (if x2 ≤ x5 then M_directive_153 N rec87 x1 x2 σ else cl (M_put  (x4 >>> (((8 : Int32) * x5) &&& 31)) σ) (fun r1 σ2 => (M_directive_129 N rec87 n) x1 x2 x4 (x5 + (1 : Int32)) σ2))
set_option maxHeartbeats 4000000 in
set_option maxRecDepth 100000 in
theorem bM_directive_129 (N : Nat) (rec87 : Int32 → Int32 → Int32 → MS → Option (Int32 × MS)) {r : Int32} {σ' : MS} (C : CxM p s m args meth c cM_directive 6 none D dA A) (hrec87 : ∀ (x1 : Int32) (x2 : Int32) (x3 : Int32) (σ : MS), rec87 x1 x2 x3 σ = some (r, σ') → ∀ (H : Heap) (locs : List Loc), WdM D dA h A s σ H locs → ∀ (ls : Array Slot), lv_has ls 6 [(0, .ref (h 0)), (1, .int x1), (2, .int x2), (3, .int x3)] → W p l e rm_directive s m args below meth c H locs 0 0 (MQ below (QM D dA h A σ' none) args s 0 0 A) (F0 m 87 ls [])) : ∀ (n : Nat) (x1 : Int32) (x2 : Int32) (x4 : Int32) (x5 : Int32) (σ : MS), M_directive_129 N rec87 n x1 x2 x4 x5 σ = some (r, σ') → ∀ (H : Heap) (locs : List Loc), WdM D dA h A s σ H locs → ∀ (ls : Array Slot), lv_has ls 6 [(0, .ref (h 0)), (1, .int x1), (2, .int x2), (4, .int x4), (5, .int x5)] → W p l e rm_directive s m args below meth c H locs 0 0 (MQ below (QM D dA h A σ' none) args s 0 0 A) (F0 m 129 ls []) := by
  have hx := C.1.1
  have hb := C.1.2.1
  have hown := C.1.2.2.2.2.1
  have hT := C.1.2.2.2.2.2.1
  intro n
  induction n with
  | zero => intro x1 x2 x4 x5 σ hM; cases hM
  | succ n hrec129 =>
    intro x1 x2 x4 x5 σ hM H locs hW ls hl
    rw [M_directive_129] at hM
    refine lv_iload (pc := 129) hx hb dM_directive_129 (lv_at hl 4 rfl) ?_
    refine lv_iload_n (pc := 131) hx hb dM_directive_131 rfl (lv_at hl 2 rfl) ?_
    refine lv_icmp_ge (pc := 132) (tgt := 153) hx hb dM_directive_132 (by decide) (fun hc => ?_) (fun hc => ?_)
    · replace hM := it_t hc hM
      exact bM_directive_153 N rec87 C hrec87 _ _ _ hM _ _ hW _ (lv_sub hl [0, 1, 2] rfl)
    · replace hM := it_f hc hM
      refine lv_aload_n (pc := 135) hx hb dM_directive_135 rfl (lv_at hl 0 rfl) ?_
      refine lv_iload (pc := 136) hx hb dM_directive_136 (lv_at hl 3 rfl) ?_
      refine lv_bipush (pc := 138) (v := 8) hx hb dM_directive_138 (by decide) ?_
      refine lv_iload (pc := 140) hx hb dM_directive_140 (lv_at hl 4 rfl) ?_
      refine lv_imul (pc := 142) hx hb dM_directive_142 ?_
      refine lv_ishr (pc := 143) hx hb dM_directive_143 ?_
      obtain ⟨r1, σ2, hr1, hM⟩ := cl_some hM
      refine x_callMv (pc := 144) C hW (kM_put l D dA h  (x4 >>> (((8 : Int32) * x5) &&& 31)) _ hr1) gM_put_553 ⟨rfl, by decide, by decide, by decide +kernel⟩ ⟨rfl, rfl⟩ ⟨by decide, by decide⟩ ⟨by decide, by decide⟩ (As := [.int (x4 >>> (((8 : Int32) * x5) &&& 31))]) (n := 1) rfl hl.1 rfl (Nat.le_of_ble_eq_true rfl) dM_directive_144 (fun H locs hW => ?_)
      refine lv_iinc (pc := 147) (v := x5 + (1 : Int32)) (lv' := [(5, .int (x5 + (1 : Int32))), (0, .ref (h 0)), (1, .int x1), (2, .int x2), (4, .int x4)]) hx hb dM_directive_147 hl (k := 4) rfl rfl (by decide) rfl (fun ls hl => ?_)
      refine lv_goto (pc := 150) (tgt := 129) hx hb dM_directive_150 (by decide) ?_
      exact hrec129 _ _ _ _ _ hM _ _ hW _ (lv_sub hl [1, 2, 3, 4, 0] rfl)
def M_directive_114 (N : Nat) (rec87 : Int32 → Int32 → Int32 → MS → Option (Int32 × MS)) (x1 : Int32) (x2 : Int32) (t1 : Int32) (σ : MS) : Option (Int32 × MS) :=
  cl (M_quoted N t1 σ) (fun r1 σ2 => M_directive_153 N rec87 x1 x2 σ2)
set_option maxHeartbeats 4000000 in
set_option maxRecDepth 100000 in
theorem bM_directive_114 (N : Nat) (rec87 : Int32 → Int32 → Int32 → MS → Option (Int32 × MS)) {r : Int32} {σ' : MS} (C : CxM p s m args meth c cM_directive 6 none D dA A) (hrec87 : ∀ (x1 : Int32) (x2 : Int32) (x3 : Int32) (σ : MS), rec87 x1 x2 x3 σ = some (r, σ') → ∀ (H : Heap) (locs : List Loc), WdM D dA h A s σ H locs → ∀ (ls : Array Slot), lv_has ls 6 [(0, .ref (h 0)), (1, .int x1), (2, .int x2), (3, .int x3)] → W p l e rm_directive s m args below meth c H locs 0 0 (MQ below (QM D dA h A σ' none) args s 0 0 A) (F0 m 87 ls [])) (x1 : Int32) (x2 : Int32) (t1 : Int32) (σ : MS) (hM : M_directive_114 N rec87 x1 x2 t1 σ = some (r, σ')) (H : Heap) (locs : List Loc) (hW : WdM D dA h A s σ H locs) (ls : Array Slot) (hl : lv_has ls 6 [(0, .ref (h 0)), (1, .int x1), (2, .int x2)]) : W p l e rm_directive s m args below meth c H locs 0 0 (MQ below (QM D dA h A σ' none) args s 0 0 A) (F0 m 114 ls [.int t1, .ref (h 0)]) := by
  have hx := C.1.1
  have hb := C.1.2.1
  have hown := C.1.2.2.2.2.1
  have hT := C.1.2.2.2.2.2.1
  unfold M_directive_114 at hM
  obtain ⟨r1, σ2, hr1, hM⟩ := cl_some hM
  refine x_callMv (pc := 114) C hW (kM_quoted l D dA h N t1 _ hr1) gM_quoted_650 ⟨rfl, by decide, by decide, by decide +kernel⟩ ⟨rfl, rfl⟩ ⟨by decide, by decide⟩ ⟨by decide, by decide⟩ (As := [.int t1]) (n := 1) rfl hl.1 rfl (Nat.le_of_ble_eq_true rfl) dM_directive_114 (fun H locs hW => ?_)
  refine lv_goto (pc := 117) (tgt := 153) hx hb dM_directive_117 (by decide) ?_
  exact bM_directive_153 N rec87 C hrec87 _ _ _ hM _ _ hW _ (lv_sub hl [0, 1, 2] rfl)
def M_directive_87 (N : Nat)  : Nat → Int32 → Int32 → Int32 → MS → Option (Int32 × MS)
  | 0 => fun _ _ _ _ => none
  | n + 1 => fun x1 x2 x3 σ => (if x3 = 0 then M_directive_185 N  σ else (if (σ.1 14) = 0 then (if x2 = 0 then (if x1 = (47 : Int32) then M_directive_114 N (M_directive_87 N  n) x1 x2 (1 : Int32) σ else M_directive_114 N (M_directive_87 N  n) x1 x2 (0 : Int32) σ) else cl (M_expression N σ) (fun r1 σ2 => M_directive_129 N (M_directive_87 N  n) N x1 x2 r1 (0 : Int32) σ2)) else M_directive_185 N  σ))
set_option maxHeartbeats 4000000 in
set_option maxRecDepth 100000 in
theorem bM_directive_87 (N : Nat)  {r : Int32} {σ' : MS} (C : CxM p s m args meth c cM_directive 6 none D dA A) : ∀ (n : Nat) (x1 : Int32) (x2 : Int32) (x3 : Int32) (σ : MS), M_directive_87 N  n x1 x2 x3 σ = some (r, σ') → ∀ (H : Heap) (locs : List Loc), WdM D dA h A s σ H locs → ∀ (ls : Array Slot), lv_has ls 6 [(0, .ref (h 0)), (1, .int x1), (2, .int x2), (3, .int x3)] → W p l e rm_directive s m args below meth c H locs 0 0 (MQ below (QM D dA h A σ' none) args s 0 0 A) (F0 m 87 ls []) := by
  have hx := C.1.1
  have hb := C.1.2.1
  have hown := C.1.2.2.2.2.1
  have hT := C.1.2.2.2.2.2.1
  intro n
  induction n with
  | zero => intro x1 x2 x3 σ hM; cases hM
  | succ n hrec87 =>
    intro x1 x2 x3 σ hM H locs hW ls hl
    rw [M_directive_87] at hM
    refine lv_iload_n (pc := 87) hx hb dM_directive_87 rfl (lv_at hl 3 rfl) ?_
    refine lv_if_eq (pc := 88) (tgt := 185) hx hb dM_directive_88 (by decide) (fun hc => ?_) (fun hc => ?_)
    · replace hM := it_t hc hM
      exact bM_directive_185 N  C   _ hM _ _ hW _ (lv_sub hl [] rfl)
    · replace hM := it_f hc hM
      refine lv_aload_n (pc := 91) hx hb dM_directive_91 rfl (lv_at hl 0 rfl) ?_
      refine gM (pc := 92) C hW 24 (by decide) q_1681 rfl rfl dM_directive_92 ?_
      refine lv_if_ne (pc := 95) (tgt := 185) hx hb dM_directive_95 (by decide) (fun hc => ?_) (fun hc => ?_)
      · replace hM := it_f hc hM
        exact bM_directive_185 N  C   _ hM _ _ hW _ (lv_sub hl [] rfl)
      · replace hM := it_t hc hM
        refine lv_iload_n (pc := 98) hx hb dM_directive_98 rfl (lv_at hl 2 rfl) ?_
        refine lv_if_ne (pc := 99) (tgt := 120) hx hb dM_directive_99 (by decide) (fun hc => ?_) (fun hc => ?_)
        · replace hM := it_f hc hM
          refine lv_aload_n (pc := 120) hx hb dM_directive_120 rfl (lv_at hl 0 rfl) ?_
          obtain ⟨r1, σ2, hr1, hM⟩ := cl_some hM
          refine x_callMi (pc := 121) C hW (kM_expression l D dA h N _ hr1) gM_expression_534 ⟨rfl, by decide, by decide, by decide +kernel⟩ ⟨rfl, rfl⟩ ⟨by decide, by decide⟩ ⟨by decide, by decide⟩ (As := []) (n := 0) rfl hl.1 rfl (Nat.le_of_ble_eq_true rfl) dM_directive_121 (fun H locs hW => ?_)
          refine lv_istore (pc := 124) (lv' := [(4, .int r1), (0, .ref (h 0)), (1, .int x1), (2, .int x2), (3, .int x3)]) hx hb dM_directive_124 hl (by decide) rfl (fun ls hl => ?_)
          refine lv_iconst (pc := 126) (v := 0) hx hb dM_directive_126 (by decide) ?_
          refine lv_istore (pc := 127) (lv' := [(5, .int (0 : Int32)), (4, .int r1), (0, .ref (h 0)), (1, .int x1), (2, .int x2), (3, .int x3)]) hx hb dM_directive_127 hl (by decide) rfl (fun ls hl => ?_)
          exact bM_directive_129 N _ C hrec87 N _ _ _ _ _ hM _ _ hW _ (lv_sub hl [2, 3, 4, 1, 0] rfl)
        · replace hM := it_t hc hM
          refine lv_aload_n (pc := 102) hx hb dM_directive_102 rfl (lv_at hl 0 rfl) ?_
          refine lv_iload_n (pc := 103) hx hb dM_directive_103 rfl (lv_at hl 1 rfl) ?_
          refine lv_bipush (pc := 104) (v := 47) hx hb dM_directive_104 (by decide) ?_
          refine lv_icmp_ne (pc := 106) (tgt := 113) hx hb dM_directive_106 (by decide) (fun hc => ?_) (fun hc => ?_)
          · replace hM := it_f hc hM
            refine lv_iconst (pc := 113) (v := 0) hx hb dM_directive_113 (by decide) ?_
            exact bM_directive_114 N _ C hrec87 _ _ _ _ hM _ _ hW _ (lv_sub hl [0, 1, 2] rfl)
          · replace hM := it_t hc hM
            refine lv_iconst (pc := 109) (v := 1) hx hb dM_directive_109 (by decide) ?_
            refine lv_goto (pc := 110) (tgt := 114) hx hb dM_directive_110 (by decide) ?_
            exact bM_directive_114 N _ C hrec87 _ _ _ _ hM _ _ hW _ (lv_sub hl [0, 1, 2] rfl)
def M_directive (N : Nat) (x1 : Int32) (x2 : Int32) (σ : MS) : Option (Int32 × MS) :=
  (if (42 : Int32) ≤ x1 then (if x1 = (42 : Int32) then cl (M_constant N σ) (fun r8 σ9 => M_directive_185 N  σ9) else (if x1 = (48 : Int32) then cl (M_fixed N (0 : Int32) (32768 : Int32) σ) (fun r5 σ6 => bnd (sF σ6 20 ((σ.1 20) + r5)) (fun σ7 => M_directive_185 N  σ7)) else (if x1 = (49 : Int32) then cl (M_fixed N (0 : Int32) (10 : Int32) σ) (fun r1 σ2 => gd (inB (σ2.1 18) 1030) (bnd (sA σ2 4 (σ2.1 18).toNatClampNeg ((-1 : Int32) - r1)) (fun σ4 => M_directive_185 N  σ4))) else M_directive_87 N  N x1 x2 (1 : Int32) σ))) else bnd (sF σ 16 (x1 - (40 : Int32))) (fun σ10 => M_directive_185 N  σ10))
set_option maxHeartbeats 4000000 in
set_option maxRecDepth 100000 in
theorem bM_directive_0 (N : Nat)  {r : Int32} {σ' : MS} (C : CxM p s m args meth c cM_directive 6 none D dA A) (x1 : Int32) (x2 : Int32) (σ : MS) (hM : M_directive N  x1 x2 σ = some (r, σ')) (H : Heap) (locs : List Loc) (hW : WdM D dA h A s σ H locs) (ls : Array Slot) (hl : lv_has ls 6 [(0, .ref (h 0)), (1, .int x1), (2, .int x2)]) : W p l e rm_directive s m args below meth c H locs 0 0 (MQ below (QM D dA h A σ' none) args s 0 0 A) (F0 m 0 ls []) := by
  have hx := C.1.1
  have hb := C.1.2.1
  have hown := C.1.2.2.2.2.1
  have hT := C.1.2.2.2.2.2.1
  unfold M_directive at hM
  refine lv_iload_n (pc := 0) hx hb dM_directive_0 rfl (lv_at hl 1 rfl) ?_
  refine lv_bipush (pc := 1) (v := 42) hx hb dM_directive_1 (by decide) ?_
  refine lv_icmp_ge (pc := 3) (tgt := 17) hx hb dM_directive_3 (by decide) (fun hc => ?_) (fun hc => ?_)
  · replace hM := it_t hc hM
    refine lv_iload_n (pc := 17) hx hb dM_directive_17 rfl (lv_at hl 1 rfl) ?_
    refine lv_bipush (pc := 18) (v := 42) hx hb dM_directive_18 (by decide) ?_
    refine lv_icmp_ne (pc := 20) (tgt := 30) hx hb dM_directive_20 (by decide) (fun hc => ?_) (fun hc => ?_)
    · replace hM := it_f hc hM
      refine lv_iload_n (pc := 30) hx hb dM_directive_30 rfl (lv_at hl 1 rfl) ?_
      refine lv_bipush (pc := 31) (v := 48) hx hb dM_directive_31 (by decide) ?_
      refine lv_icmp_ne (pc := 33) (tgt := 56) hx hb dM_directive_33 (by decide) (fun hc => ?_) (fun hc => ?_)
      · replace hM := it_f hc hM
        refine lv_iload_n (pc := 56) hx hb dM_directive_56 rfl (lv_at hl 1 rfl) ?_
        refine lv_bipush (pc := 57) (v := 49) hx hb dM_directive_57 (by decide) ?_
        refine lv_icmp_ne (pc := 59) (tgt := 85) hx hb dM_directive_59 (by decide) (fun hc => ?_) (fun hc => ?_)
        · replace hM := it_f hc hM
          refine lv_iconst (pc := 85) (v := 1) hx hb dM_directive_85 (by decide) ?_
          refine lv_istore_n (pc := 86) (lv' := [(3, .int (1 : Int32)), (0, .ref (h 0)), (1, .int x1), (2, .int x2)]) hx hb dM_directive_86 rfl hl (by decide) rfl (fun ls hl => ?_)
          exact bM_directive_87 N  C  N _ _ _ _ hM _ _ hW _ (lv_sub hl [1, 2, 3, 0] rfl)
        · replace hM := it_t hc hM
          refine lv_aload_n (pc := 62) hx hb dM_directive_62 rfl (lv_at hl 0 rfl) ?_
          refine lv_iconst (pc := 63) (v := 0) hx hb dM_directive_63 (by decide) ?_
          refine lv_bipush (pc := 64) (v := 10) hx hb dM_directive_64 (by decide) ?_
          obtain ⟨r1, σ2, hr1, hM⟩ := cl_some hM
          refine x_callMi (pc := 66) C hW (kM_fixed l D dA h N (0 : Int32) (10 : Int32) _ hr1) gM_fixed_614 ⟨rfl, by decide, by decide, by decide +kernel⟩ ⟨rfl, rfl⟩ ⟨by decide, by decide⟩ ⟨by decide, by decide⟩ (As := [.int (0 : Int32), .int (10 : Int32)]) (n := 2) rfl hl.1 rfl (Nat.le_of_ble_eq_true rfl) dM_directive_66 (fun H locs hW => ?_)
          refine lv_istore_n (pc := 69) (lv' := [(3, .int r1), (0, .ref (h 0)), (1, .int x1), (2, .int x2)]) hx hb dM_directive_69 rfl hl (by decide) rfl (fun ls hl => ?_)
          refine lv_aload_n (pc := 70) hx hb dM_directive_70 rfl (lv_at hl 1 rfl) ?_
          refine gM (pc := 71) C hW 12 (by decide) q_1669 rfl rfl dM_directive_71 ?_
          refine lv_aload_n (pc := 74) hx hb dM_directive_74 rfl (lv_at hl 1 rfl) ?_
          refine gM (pc := 75) C hW 28 (by decide) q_1685 rfl rfl dM_directive_75 ?_
          refine lv_iconst (pc := 78) (v := -1) hx hb dM_directive_78 (by decide) ?_
          refine lv_iload_n (pc := 79) hx hb dM_directive_79 rfl (lv_at hl 0 rfl) ?_
          refine lv_isub (pc := 80) hx hb dM_directive_80 ?_
          obtain ⟨hg3, hM⟩ := gd_some hM
          refine x_stI (pc := 81) C hW 8 4 rfl hg3 (sa_bytes dA h _ _ _) dM_directive_81 (fun H locs hW => ?_)
          obtain ⟨σ4, eσ4, hM⟩ := bnd_some hM
          rw [← eσ4] at hW
          refine lv_goto (pc := 82) (tgt := 185) hx hb dM_directive_82 (by decide) ?_
          exact bM_directive_185 N  C   _ hM _ _ hW _ (lv_sub hl [] rfl)
      · replace hM := it_t hc hM
        refine lv_aload_n (pc := 36) hx hb dM_directive_36 rfl (lv_at hl 0 rfl) ?_
        refine lv_dup (pc := 37) hx hb dM_directive_37 rfl ?_
        refine gM (pc := 38) C hW 30 (by decide) q_1687 rfl rfl dM_directive_38 ?_
        refine lv_aload_n (pc := 41) hx hb dM_directive_41 rfl (lv_at hl 0 rfl) ?_
        refine lv_iconst (pc := 42) (v := 0) hx hb dM_directive_42 (by decide) ?_
        refine lv_ldcw (pc := 43) (v := 32768) hx hb hown (hT _ q_1972) dM_directive_43 ?_
        obtain ⟨r5, σ6, hr5, hM⟩ := cl_some hM
        refine x_callMi (pc := 46) C hW (kM_fixed l D dA h N (0 : Int32) (32768 : Int32) _ hr5) gM_fixed_614 ⟨rfl, by decide, by decide, by decide +kernel⟩ ⟨rfl, rfl⟩ ⟨by decide, by decide⟩ ⟨by decide, by decide⟩ (As := [.int (0 : Int32), .int (32768 : Int32)]) (n := 2) rfl hl.1 rfl (Nat.le_of_ble_eq_true rfl) dM_directive_46 (fun H locs hW => ?_)
        refine lv_iadd (pc := 49) hx hb dM_directive_49 ?_
        refine pM (pc := 50) (ty := .int) C hW 30 20 (by decide) q_1687 rfl rfl (by decide +kernel) rfl rfl (st_count dA h _ _) dM_directive_50 (fun H locs hW => ?_)
        obtain ⟨σ7, eσ7, hM⟩ := bnd_some hM
        rw [← eσ7] at hW
        refine lv_goto (pc := 53) (tgt := 185) hx hb dM_directive_53 (by decide) ?_
        exact bM_directive_185 N  C   _ hM _ _ hW _ (lv_sub hl [] rfl)
    · replace hM := it_t hc hM
      refine lv_aload_n (pc := 23) hx hb dM_directive_23 rfl (lv_at hl 0 rfl) ?_
      obtain ⟨r8, σ9, hr8, hM⟩ := cl_some hM
      refine x_callMv (pc := 24) C hW (kM_constant l D dA h N _ hr8) gM_constant_646 ⟨rfl, by decide, by decide, by decide +kernel⟩ ⟨rfl, rfl⟩ ⟨by decide, by decide⟩ ⟨by decide, by decide⟩ (As := []) (n := 0) rfl hl.1 rfl (Nat.le_of_ble_eq_true rfl) dM_directive_24 (fun H locs hW => ?_)
      refine lv_goto (pc := 27) (tgt := 185) hx hb dM_directive_27 (by decide) ?_
      exact bM_directive_185 N  C   _ hM _ _ hW _ (lv_sub hl [] rfl)
  · replace hM := it_f hc hM
    refine lv_aload_n (pc := 6) hx hb dM_directive_6 rfl (lv_at hl 0 rfl) ?_
    refine lv_iload_n (pc := 7) hx hb dM_directive_7 rfl (lv_at hl 1 rfl) ?_
    refine lv_bipush (pc := 8) (v := 40) hx hb dM_directive_8 (by decide) ?_
    refine lv_isub (pc := 10) hx hb dM_directive_10 ?_
    refine pM (pc := 11) (ty := .int) C hW 26 16 (by decide) q_1683 rfl rfl (by decide +kernel) rfl rfl (st_section dA h _ _) dM_directive_11 (fun H locs hW => ?_)
    obtain ⟨σ10, eσ10, hM⟩ := bnd_some hM
    rw [← eσ10] at hW
    refine lv_goto (pc := 14) (tgt := 185) hx hb dM_directive_14 (by decide) ?_
    exact bM_directive_185 N  C   _ hM _ _ hW _ (lv_sub hl [] rfl)
theorem kM_directive (l : Launch) (D : va_G) (dA : Nat → ClassId) (h : Nat → Nat) (N : Nat) (x1 : Int32) (x2 : Int32) (σ : MS) {r : Int32} {σ' : MS} (hM : M_directive N x1 x2 σ = some (r, σ')) : KM l D dA yM_directive cM_directive 6 none rm_directive h σ [.int x1, .int x2] none σ' := x_enterM rfl (Nat.le_of_ble_eq_true rfl) (fun p e s m args below meth c A C hW ls hl => bM_directive_0 N C x1 x2 σ hM s.heap [] hW ls hl)
def M_shortJump (x0 : Int32) : Option Int32 :=
  cr (M_bits  x0 (11 : Int32) (11 : Int32) (12 : Int32)) (fun r1 => cr (M_bits  x0 (4 : Int32) (4 : Int32) (11 : Int32)) (fun r2 => cr (M_bits  x0 (9 : Int32) (8 : Int32) (9 : Int32)) (fun r3 => cr (M_bits  x0 (10 : Int32) (10 : Int32) (8 : Int32)) (fun r4 => cr (M_bits  x0 (6 : Int32) (6 : Int32) (7 : Int32)) (fun r5 => cr (M_bits  x0 (7 : Int32) (7 : Int32) (6 : Int32)) (fun r6 => cr (M_bits  x0 (3 : Int32) (1 : Int32) (3 : Int32)) (fun r7 => cr (M_bits  x0 (5 : Int32) (5 : Int32) (2 : Int32)) (fun r8 => some (((((((r1 ||| r2) ||| r3) ||| r4) ||| r5) ||| r6) ||| r7) ||| r8)))))))))
set_option maxHeartbeats 4000000 in
set_option maxRecDepth 100000 in
theorem bM_shortJump_0  {r : Int32} (C : CxS RM p s m args meth c cM_shortJump 1 (some .int)) (x0 : Int32) (hM : M_shortJump  x0 = some r) (ls : Array Slot) (hl : lv_has ls 1 [(0, .int x0)]) : W p l e rm_shortJump s m args below meth c s.heap [] 0 0 (MQ below (QS (some (.int r))) args s 0 0 (fun _ => False)) (F0 m 0 ls []) := by
  have hx := C.1
  have hb := C.2.1
  have hown := C.2.2.2.2.1
  have hT := C.2.2.2.2.2.1
  unfold M_shortJump at hM
  refine lv_iload_n (pc := 0) hx hb dM_shortJump_0 rfl (lv_at hl 0 rfl) ?_
  refine lv_bipush (pc := 1) (v := 11) hx hb dM_shortJump_1 (by decide) ?_
  refine lv_bipush (pc := 3) (v := 11) hx hb dM_shortJump_3 (by decide) ?_
  refine lv_bipush (pc := 5) (v := 12) hx hb dM_shortJump_5 (by decide) ?_
  obtain ⟨r1, hr1, hM⟩ := cr_some hM
  refine x_callSi (pc := 7) C (kM_bits l  x0 (11 : Int32) (11 : Int32) (12 : Int32) hr1) gM_bits_559 ⟨rfl, by decide, by decide, by decide +kernel⟩ ⟨rfl, rfl⟩ ⟨by decide, by decide⟩ ⟨by decide, by decide⟩ (As := [.int x0, .int (11 : Int32), .int (11 : Int32), .int (12 : Int32)]) (n := 4) rfl hl.1 rfl (Nat.le_of_ble_eq_true rfl) dM_shortJump_7 ?_
  refine lv_iload_n (pc := 10) hx hb dM_shortJump_10 rfl (lv_at hl 0 rfl) ?_
  refine lv_iconst (pc := 11) (v := 4) hx hb dM_shortJump_11 (by decide) ?_
  refine lv_iconst (pc := 12) (v := 4) hx hb dM_shortJump_12 (by decide) ?_
  refine lv_bipush (pc := 13) (v := 11) hx hb dM_shortJump_13 (by decide) ?_
  obtain ⟨r2, hr2, hM⟩ := cr_some hM
  refine x_callSi (pc := 15) C (kM_bits l  x0 (4 : Int32) (4 : Int32) (11 : Int32) hr2) gM_bits_559 ⟨rfl, by decide, by decide, by decide +kernel⟩ ⟨rfl, rfl⟩ ⟨by decide, by decide⟩ ⟨by decide, by decide⟩ (As := [.int x0, .int (4 : Int32), .int (4 : Int32), .int (11 : Int32)]) (n := 4) rfl hl.1 rfl (Nat.le_of_ble_eq_true rfl) dM_shortJump_15 ?_
  refine lv_ior (pc := 18) hx hb dM_shortJump_18 ?_
  refine lv_iload_n (pc := 19) hx hb dM_shortJump_19 rfl (lv_at hl 0 rfl) ?_
  refine lv_bipush (pc := 20) (v := 9) hx hb dM_shortJump_20 (by decide) ?_
  refine lv_bipush (pc := 22) (v := 8) hx hb dM_shortJump_22 (by decide) ?_
  refine lv_bipush (pc := 24) (v := 9) hx hb dM_shortJump_24 (by decide) ?_
  obtain ⟨r3, hr3, hM⟩ := cr_some hM
  refine x_callSi (pc := 26) C (kM_bits l  x0 (9 : Int32) (8 : Int32) (9 : Int32) hr3) gM_bits_559 ⟨rfl, by decide, by decide, by decide +kernel⟩ ⟨rfl, rfl⟩ ⟨by decide, by decide⟩ ⟨by decide, by decide⟩ (As := [.int x0, .int (9 : Int32), .int (8 : Int32), .int (9 : Int32)]) (n := 4) rfl hl.1 rfl (Nat.le_of_ble_eq_true rfl) dM_shortJump_26 ?_
  refine lv_ior (pc := 29) hx hb dM_shortJump_29 ?_
  refine lv_iload_n (pc := 30) hx hb dM_shortJump_30 rfl (lv_at hl 0 rfl) ?_
  refine lv_bipush (pc := 31) (v := 10) hx hb dM_shortJump_31 (by decide) ?_
  refine lv_bipush (pc := 33) (v := 10) hx hb dM_shortJump_33 (by decide) ?_
  refine lv_bipush (pc := 35) (v := 8) hx hb dM_shortJump_35 (by decide) ?_
  obtain ⟨r4, hr4, hM⟩ := cr_some hM
  refine x_callSi (pc := 37) C (kM_bits l  x0 (10 : Int32) (10 : Int32) (8 : Int32) hr4) gM_bits_559 ⟨rfl, by decide, by decide, by decide +kernel⟩ ⟨rfl, rfl⟩ ⟨by decide, by decide⟩ ⟨by decide, by decide⟩ (As := [.int x0, .int (10 : Int32), .int (10 : Int32), .int (8 : Int32)]) (n := 4) rfl hl.1 rfl (Nat.le_of_ble_eq_true rfl) dM_shortJump_37 ?_
  refine lv_ior (pc := 40) hx hb dM_shortJump_40 ?_
  refine lv_iload_n (pc := 41) hx hb dM_shortJump_41 rfl (lv_at hl 0 rfl) ?_
  refine lv_bipush (pc := 42) (v := 6) hx hb dM_shortJump_42 (by decide) ?_
  refine lv_bipush (pc := 44) (v := 6) hx hb dM_shortJump_44 (by decide) ?_
  refine lv_bipush (pc := 46) (v := 7) hx hb dM_shortJump_46 (by decide) ?_
  obtain ⟨r5, hr5, hM⟩ := cr_some hM
  refine x_callSi (pc := 48) C (kM_bits l  x0 (6 : Int32) (6 : Int32) (7 : Int32) hr5) gM_bits_559 ⟨rfl, by decide, by decide, by decide +kernel⟩ ⟨rfl, rfl⟩ ⟨by decide, by decide⟩ ⟨by decide, by decide⟩ (As := [.int x0, .int (6 : Int32), .int (6 : Int32), .int (7 : Int32)]) (n := 4) rfl hl.1 rfl (Nat.le_of_ble_eq_true rfl) dM_shortJump_48 ?_
  refine lv_ior (pc := 51) hx hb dM_shortJump_51 ?_
  refine lv_iload_n (pc := 52) hx hb dM_shortJump_52 rfl (lv_at hl 0 rfl) ?_
  refine lv_bipush (pc := 53) (v := 7) hx hb dM_shortJump_53 (by decide) ?_
  refine lv_bipush (pc := 55) (v := 7) hx hb dM_shortJump_55 (by decide) ?_
  refine lv_bipush (pc := 57) (v := 6) hx hb dM_shortJump_57 (by decide) ?_
  obtain ⟨r6, hr6, hM⟩ := cr_some hM
  refine x_callSi (pc := 59) C (kM_bits l  x0 (7 : Int32) (7 : Int32) (6 : Int32) hr6) gM_bits_559 ⟨rfl, by decide, by decide, by decide +kernel⟩ ⟨rfl, rfl⟩ ⟨by decide, by decide⟩ ⟨by decide, by decide⟩ (As := [.int x0, .int (7 : Int32), .int (7 : Int32), .int (6 : Int32)]) (n := 4) rfl hl.1 rfl (Nat.le_of_ble_eq_true rfl) dM_shortJump_59 ?_
  refine lv_ior (pc := 62) hx hb dM_shortJump_62 ?_
  refine lv_iload_n (pc := 63) hx hb dM_shortJump_63 rfl (lv_at hl 0 rfl) ?_
  refine lv_iconst (pc := 64) (v := 3) hx hb dM_shortJump_64 (by decide) ?_
  refine lv_iconst (pc := 65) (v := 1) hx hb dM_shortJump_65 (by decide) ?_
  refine lv_iconst (pc := 66) (v := 3) hx hb dM_shortJump_66 (by decide) ?_
  obtain ⟨r7, hr7, hM⟩ := cr_some hM
  refine x_callSi (pc := 67) C (kM_bits l  x0 (3 : Int32) (1 : Int32) (3 : Int32) hr7) gM_bits_559 ⟨rfl, by decide, by decide, by decide +kernel⟩ ⟨rfl, rfl⟩ ⟨by decide, by decide⟩ ⟨by decide, by decide⟩ (As := [.int x0, .int (3 : Int32), .int (1 : Int32), .int (3 : Int32)]) (n := 4) rfl hl.1 rfl (Nat.le_of_ble_eq_true rfl) dM_shortJump_67 ?_
  refine lv_ior (pc := 70) hx hb dM_shortJump_70 ?_
  refine lv_iload_n (pc := 71) hx hb dM_shortJump_71 rfl (lv_at hl 0 rfl) ?_
  refine lv_iconst (pc := 72) (v := 5) hx hb dM_shortJump_72 (by decide) ?_
  refine lv_iconst (pc := 73) (v := 5) hx hb dM_shortJump_73 (by decide) ?_
  refine lv_iconst (pc := 74) (v := 2) hx hb dM_shortJump_74 (by decide) ?_
  obtain ⟨r8, hr8, hM⟩ := cr_some hM
  refine x_callSi (pc := 75) C (kM_bits l  x0 (5 : Int32) (5 : Int32) (2 : Int32) hr8) gM_bits_559 ⟨rfl, by decide, by decide, by decide +kernel⟩ ⟨rfl, rfl⟩ ⟨by decide, by decide⟩ ⟨by decide, by decide⟩ (As := [.int x0, .int (5 : Int32), .int (5 : Int32), .int (2 : Int32)]) (n := 4) rfl hl.1 rfl (Nat.le_of_ble_eq_true rfl) dM_shortJump_75 ?_
  refine lv_ior (pc := 78) hx hb dM_shortJump_78 ?_
  obtain rfl := sm_i hM
  exact x_retS (pc := 79) C rfl dM_shortJump_79
theorem kM_shortJump (l : Launch) (x0 : Int32) {r : Int32} (hM : M_shortJump x0 = some r) : KS l yM_shortJump cM_shortJump 1 (some .int) rm_shortJump [.int x0] (some (.int r)) := x_enterS (by decide +kernel) (Nat.le_of_ble_eq_true rfl) (fun p e s m args below meth c C ls hl => bM_shortJump_0 C x0 hM ls hl)
def M_jump_57 (N : Nat)  (σ : MS) : Option (Int32 × MS) :=
  some ((0 : Int32), σ)
set_option maxHeartbeats 4000000 in
set_option maxRecDepth 100000 in
theorem bM_jump_57 (N : Nat)  {r : Int32} {σ' : MS} (C : CxM p s m args meth c cM_jump 3 none D dA A)  (σ : MS) (hM : M_jump_57 N   σ = some (r, σ')) (H : Heap) (locs : List Loc) (hW : WdM D dA h A s σ H locs) (ls : Array Slot) (hl : lv_has ls 3 []) : W p l e rm_jump s m args below meth c H locs 0 0 (MQ below (QM D dA h A σ' none) args s 0 0 A) (F0 m 57 ls []) := by
  have hx := C.1.1
  have hb := C.1.2.1
  have hown := C.1.2.2.2.2.1
  have hT := C.1.2.2.2.2.2.1
  unfold M_jump_57 at hM
  obtain ⟨rfl, rfl⟩ := sm_p hM
  exact x_retMv (pc := 57) C rfl hW dM_jump_57
def M_jump_26 (N : Nat) (x2 : Int32) (t1 : Int32) (t2 : Int32) (σ : MS) : Option (Int32 × MS) :=
  cr (M_shortJump  x2) (fun r1 => cl (M_half  ((t1 ||| (t2 <<< ((13 : Int32) &&& 31))) ||| r1) σ) (fun r2 σ3 => M_jump_57 N  σ3))
set_option maxHeartbeats 4000000 in
set_option maxRecDepth 100000 in
theorem bM_jump_26 (N : Nat)  {r : Int32} {σ' : MS} (C : CxM p s m args meth c cM_jump 3 none D dA A) (x2 : Int32) (t1 : Int32) (t2 : Int32) (σ : MS) (hM : M_jump_26 N  x2 t1 t2 σ = some (r, σ')) (H : Heap) (locs : List Loc) (hW : WdM D dA h A s σ H locs) (ls : Array Slot) (hl : lv_has ls 3 [(2, .int x2)]) : W p l e rm_jump s m args below meth c H locs 0 0 (MQ below (QM D dA h A σ' none) args s 0 0 A) (F0 m 26 ls [.int t2, .int t1, .ref (h 0)]) := by
  have hx := C.1.1
  have hb := C.1.2.1
  have hown := C.1.2.2.2.2.1
  have hT := C.1.2.2.2.2.2.1
  unfold M_jump_26 at hM
  refine lv_bipush (pc := 26) (v := 13) hx hb dM_jump_26 (by decide) ?_
  refine lv_ishl (pc := 28) hx hb dM_jump_28 ?_
  refine lv_ior (pc := 29) hx hb dM_jump_29 ?_
  refine lv_iload_n (pc := 30) hx hb dM_jump_30 rfl (lv_at hl 0 rfl) ?_
  obtain ⟨r1, hr1, hM⟩ := cr_some hM
  refine x_callSi (pc := 31) C.1 (kM_shortJump l  x2 hr1) gM_shortJump_573 ⟨rfl, by decide, by decide, by decide +kernel⟩ ⟨rfl, rfl⟩ ⟨by decide, by decide⟩ ⟨by decide, by decide⟩ (As := [.int x2]) (n := 1) rfl hl.1 rfl (Nat.le_of_ble_eq_true rfl) dM_jump_31 ?_
  refine lv_ior (pc := 34) hx hb dM_jump_34 ?_
  obtain ⟨r2, σ3, hr2, hM⟩ := cl_some hM
  refine x_callMv (pc := 35) C hW (kM_half l D dA h  ((t1 ||| (t2 <<< ((13 : Int32) &&& 31))) ||| r1) _ hr2) gM_half_556 ⟨rfl, by decide, by decide, by decide +kernel⟩ ⟨rfl, rfl⟩ ⟨by decide, by decide⟩ ⟨by decide, by decide⟩ (As := [.int ((t1 ||| (t2 <<< ((13 : Int32) &&& 31))) ||| r1)]) (n := 1) rfl hl.1 rfl (Nat.le_of_ble_eq_true rfl) dM_jump_35 (fun H locs hW => ?_)
  refine lv_goto (pc := 38) (tgt := 57) hx hb dM_jump_38 (by decide) ?_
  exact bM_jump_57 N  C   _ hM _ _ hW _ (lv_sub hl [] rfl)
def M_jump (N : Nat) (x1 : Int32) (σ : MS) : Option (Int32 × MS) :=
  cl (M_target N (1 : Int32) (0 : Int32) σ) (fun r1 σ2 => cr (M_level  σ2) (fun r3 => (if r3 = 0 then (if x1 = (1 : Int32) then M_jump_26 N  r1 (1 : Int32) (1 : Int32) σ2 else M_jump_26 N  r1 (1 : Int32) (5 : Int32) σ2) else cr (M_jumpBits  r1) (fun r4 => cl (M_word  (((111 : Int32) ||| (x1 <<< ((7 : Int32) &&& 31))) ||| r4) σ2) (fun r5 σ6 => M_jump_57 N  σ6)))))
set_option maxHeartbeats 4000000 in
set_option maxRecDepth 100000 in
theorem bM_jump_0 (N : Nat)  {r : Int32} {σ' : MS} (C : CxM p s m args meth c cM_jump 3 none D dA A) (x1 : Int32) (σ : MS) (hM : M_jump N  x1 σ = some (r, σ')) (H : Heap) (locs : List Loc) (hW : WdM D dA h A s σ H locs) (ls : Array Slot) (hl : lv_has ls 3 [(0, .ref (h 0)), (1, .int x1)]) : W p l e rm_jump s m args below meth c H locs 0 0 (MQ below (QM D dA h A σ' none) args s 0 0 A) (F0 m 0 ls []) := by
  have hx := C.1.1
  have hb := C.1.2.1
  have hown := C.1.2.2.2.2.1
  have hT := C.1.2.2.2.2.2.1
  unfold M_jump at hM
  refine lv_aload_n (pc := 0) hx hb dM_jump_0 rfl (lv_at hl 0 rfl) ?_
  refine lv_iconst (pc := 1) (v := 1) hx hb dM_jump_1 (by decide) ?_
  refine lv_iconst (pc := 2) (v := 0) hx hb dM_jump_2 (by decide) ?_
  obtain ⟨r1, σ2, hr1, hM⟩ := cl_some hM
  refine x_callMi (pc := 3) C hW (kM_target l D dA h N (1 : Int32) (0 : Int32) _ hr1) gM_target_570 ⟨rfl, by decide, by decide, by decide +kernel⟩ ⟨rfl, rfl⟩ ⟨by decide, by decide⟩ ⟨by decide, by decide⟩ (As := [.int (1 : Int32), .int (0 : Int32)]) (n := 2) rfl hl.1 rfl (Nat.le_of_ble_eq_true rfl) dM_jump_3 (fun H locs hW => ?_)
  refine lv_istore_n (pc := 6) (lv' := [(2, .int r1), (0, .ref (h 0)), (1, .int x1)]) hx hb dM_jump_6 rfl hl (by decide) rfl (fun ls hl => ?_)
  refine lv_aload_n (pc := 7) hx hb dM_jump_7 rfl (lv_at hl 1 rfl) ?_
  obtain ⟨r3, hr3, hM⟩ := cr_some hM
  refine x_callRi (pc := 8) C hW (kM_level l D dA h  _ hr3) gM_level_563 ⟨rfl, by decide, by decide, by decide +kernel⟩ ⟨rfl, rfl⟩ ⟨by decide, by decide⟩ ⟨by decide, by decide⟩ (As := []) (n := 0) rfl hl.1 rfl (Nat.le_of_ble_eq_true rfl) dM_jump_8 ?_
  refine lv_if_ne (pc := 11) (tgt := 41) hx hb dM_jump_11 (by decide) (fun hc => ?_) (fun hc => ?_)
  · replace hM := it_f hc hM
    refine lv_aload_n (pc := 41) hx hb dM_jump_41 rfl (lv_at hl 1 rfl) ?_
    refine lv_bipush (pc := 42) (v := 111) hx hb dM_jump_42 (by decide) ?_
    refine lv_iload_n (pc := 44) hx hb dM_jump_44 rfl (lv_at hl 2 rfl) ?_
    refine lv_bipush (pc := 45) (v := 7) hx hb dM_jump_45 (by decide) ?_
    refine lv_ishl (pc := 47) hx hb dM_jump_47 ?_
    refine lv_ior (pc := 48) hx hb dM_jump_48 ?_
    refine lv_iload_n (pc := 49) hx hb dM_jump_49 rfl (lv_at hl 0 rfl) ?_
    obtain ⟨r4, hr4, hM⟩ := cr_some hM
    refine x_callSi (pc := 50) C.1 (kM_jumpBits l  r1 hr4) gM_jumpBits_576 ⟨rfl, by decide, by decide, by decide +kernel⟩ ⟨rfl, rfl⟩ ⟨by decide, by decide⟩ ⟨by decide, by decide⟩ (As := [.int r1]) (n := 1) rfl hl.1 rfl (Nat.le_of_ble_eq_true rfl) dM_jump_50 ?_
    refine lv_ior (pc := 53) hx hb dM_jump_53 ?_
    obtain ⟨r5, σ6, hr5, hM⟩ := cl_some hM
    refine x_callMv (pc := 54) C hW (kM_word l D dA h  (((111 : Int32) ||| (x1 <<< ((7 : Int32) &&& 31))) ||| r4) _ hr5) gM_word_579 ⟨rfl, by decide, by decide, by decide +kernel⟩ ⟨rfl, rfl⟩ ⟨by decide, by decide⟩ ⟨by decide, by decide⟩ (As := [.int (((111 : Int32) ||| (x1 <<< ((7 : Int32) &&& 31))) ||| r4)]) (n := 1) rfl hl.1 rfl (Nat.le_of_ble_eq_true rfl) dM_jump_54 (fun H locs hW => ?_)
    exact bM_jump_57 N  C   _ hM _ _ hW _ (lv_sub hl [] rfl)
  · replace hM := it_t hc hM
    refine lv_aload_n (pc := 14) hx hb dM_jump_14 rfl (lv_at hl 1 rfl) ?_
    refine lv_iconst (pc := 15) (v := 1) hx hb dM_jump_15 (by decide) ?_
    refine lv_iload_n (pc := 16) hx hb dM_jump_16 rfl (lv_at hl 2 rfl) ?_
    refine lv_iconst (pc := 17) (v := 1) hx hb dM_jump_17 (by decide) ?_
    refine lv_icmp_ne (pc := 18) (tgt := 25) hx hb dM_jump_18 (by decide) (fun hc => ?_) (fun hc => ?_)
    · replace hM := it_f hc hM
      refine lv_iconst (pc := 25) (v := 5) hx hb dM_jump_25 (by decide) ?_
      exact bM_jump_26 N  C  _ _ _ _ hM _ _ hW _ (lv_sub hl [0] rfl)
    · replace hM := it_t hc hM
      refine lv_iconst (pc := 21) (v := 1) hx hb dM_jump_21 (by decide) ?_
      refine lv_goto (pc := 22) (tgt := 26) hx hb dM_jump_22 (by decide) ?_
      exact bM_jump_26 N  C  _ _ _ _ hM _ _ hW _ (lv_sub hl [0] rfl)
theorem kM_jump (l : Launch) (D : va_G) (dA : Nat → ClassId) (h : Nat → Nat) (N : Nat) (x1 : Int32) (σ : MS) {r : Int32} {σ' : MS} (hM : M_jump N x1 σ = some (r, σ')) : KM l D dA yM_jump cM_jump 3 none rm_jump h σ [.int x1] none σ' := x_enterM rfl (Nat.le_of_ble_eq_true rfl) (fun p e s m args below meth c A C hW ls hl => bM_jump_0 N C x1 σ hM s.heap [] hW ls hl)
def M_jumps_67 (N : Nat) (t1 : Int32) (σ : MS) : Option (Int32 × MS) :=
  cl (M_jump N t1 σ) (fun r1 σ2 => some ((0 : Int32), σ2))
set_option maxHeartbeats 4000000 in
set_option maxRecDepth 100000 in
theorem bM_jumps_67 (N : Nat)  {r : Int32} {σ' : MS} (C : CxM p s m args meth c cM_jumps 7 none D dA A) (t1 : Int32) (σ : MS) (hM : M_jumps_67 N  t1 σ = some (r, σ')) (H : Heap) (locs : List Loc) (hW : WdM D dA h A s σ H locs) (ls : Array Slot) (hl : lv_has ls 7 []) : W p l e rm_jumps s m args below meth c H locs 0 0 (MQ below (QM D dA h A σ' none) args s 0 0 A) (F0 m 67 ls [.int t1, .ref (h 0)]) := by
  have hx := C.1.1
  have hb := C.1.2.1
  have hown := C.1.2.2.2.2.1
  have hT := C.1.2.2.2.2.2.1
  unfold M_jumps_67 at hM
  obtain ⟨r1, σ2, hr1, hM⟩ := cl_some hM
  refine x_callMv (pc := 67) C hW (kM_jump l D dA h N t1 _ hr1) gM_jump_608 ⟨rfl, by decide, by decide, by decide +kernel⟩ ⟨rfl, rfl⟩ ⟨by decide, by decide⟩ ⟨by decide, by decide⟩ (As := [.int t1]) (n := 1) rfl hl.1 rfl (Nat.le_of_ble_eq_true rfl) dM_jumps_67 (fun H locs hW => ?_)
  obtain ⟨rfl, rfl⟩ := sm_p hM
  exact x_retMv (pc := 70) C rfl hW dM_jumps_70
def M_jumps_55 (N : Nat) (x1 : Int32) (x2 : Int32) (σ : MS) : Option (Int32 × MS) :=
  (if x1 = (34 : Int32) then M_jumps_67 N  x2 σ else M_jumps_67 N  (1 : Int32) σ)
set_option maxHeartbeats 4000000 in
set_option maxRecDepth 100000 in
theorem bM_jumps_55 (N : Nat)  {r : Int32} {σ' : MS} (C : CxM p s m args meth c cM_jumps 7 none D dA A) (x1 : Int32) (x2 : Int32) (σ : MS) (hM : M_jumps_55 N  x1 x2 σ = some (r, σ')) (H : Heap) (locs : List Loc) (hW : WdM D dA h A s σ H locs) (ls : Array Slot) (hl : lv_has ls 7 [(0, .ref (h 0)), (1, .int x1), (2, .int x2)]) : W p l e rm_jumps s m args below meth c H locs 0 0 (MQ below (QM D dA h A σ' none) args s 0 0 A) (F0 m 55 ls []) := by
  have hx := C.1.1
  have hb := C.1.2.1
  have hown := C.1.2.2.2.2.1
  have hT := C.1.2.2.2.2.2.1
  unfold M_jumps_55 at hM
  refine lv_aload_n (pc := 55) hx hb dM_jumps_55 rfl (lv_at hl 0 rfl) ?_
  refine lv_iload_n (pc := 56) hx hb dM_jumps_56 rfl (lv_at hl 1 rfl) ?_
  refine lv_bipush (pc := 57) (v := 34) hx hb dM_jumps_57 (by decide) ?_
  refine lv_icmp_ne (pc := 59) (tgt := 66) hx hb dM_jumps_59 (by decide) (fun hc => ?_) (fun hc => ?_)
  · replace hM := it_f hc hM
    refine lv_iconst (pc := 66) (v := 1) hx hb dM_jumps_66 (by decide) ?_
    exact bM_jumps_67 N  C  _ _ hM _ _ hW _ (lv_sub hl [] rfl)
  · replace hM := it_t hc hM
    refine lv_iload_n (pc := 62) hx hb dM_jumps_62 rfl (lv_at hl 2 rfl) ?_
    refine lv_goto (pc := 63) (tgt := 67) hx hb dM_jumps_63 (by decide) ?_
    exact bM_jumps_67 N  C  _ _ hM _ _ hW _ (lv_sub hl [] rfl)
def M_jumps_37 (N : Nat) (x1 : Int32) (x2 : Int32) (x3 : Int32) (t0 : Int32) (σ : MS) : Option (Int32 × MS) :=
  bnd (sF σ 9 x3) (fun σ1 => (if x1 = (34 : Int32) then M_jumps_55 N  x1 x2 σ1 else (if t0 = 0 then M_jumps_55 N  x1 x2 σ1 else cl (M_taken N σ1) (fun r2 σ3 => cl (M_comma N σ3) (fun r4 σ5 => (if r4 = 0 then some ((0 : Int32), σ5) else cl (M_expression N σ5) (fun r6 σ7 => cl (M_fits  (r6 - (σ7.1 19)) (-1048576 : Int32) (1048574 : Int32) (2 : Int32) σ7) (fun r8 σ9 => cr (M_jumpBits  (r6 - (σ7.1 19))) (fun r10 => cl (M_word  ((x2 ||| (r2 <<< ((7 : Int32) &&& 31))) ||| r10) σ9) (fun r11 σ12 => some ((0 : Int32), σ12)))))))))))
set_option maxHeartbeats 4000000 in
set_option maxRecDepth 100000 in
theorem bM_jumps_37 (N : Nat)  {r : Int32} {σ' : MS} (C : CxM p s m args meth c cM_jumps 7 none D dA A) (x1 : Int32) (x2 : Int32) (x3 : Int32) (t0 : Int32) (σ : MS) (hM : M_jumps_37 N  x1 x2 x3 t0 σ = some (r, σ')) (H : Heap) (locs : List Loc) (hW : WdM D dA h A s σ H locs) (ls : Array Slot) (hl : lv_has ls 7 [(0, .ref (h 0)), (1, .int x1), (2, .int x2), (3, .int x3)]) : W p l e rm_jumps s m args below meth c H locs 0 0 (MQ below (QM D dA h A σ' none) args s 0 0 A) (F0 m 37 ls [.int t0]) := by
  have hx := C.1.1
  have hb := C.1.2.1
  have hown := C.1.2.2.2.2.1
  have hT := C.1.2.2.2.2.2.1
  unfold M_jumps_37 at hM
  refine lv_istore (pc := 37) (lv' := [(4, .int t0), (0, .ref (h 0)), (1, .int x1), (2, .int x2), (3, .int x3)]) hx hb dM_jumps_37 hl (by decide) rfl (fun ls hl => ?_)
  refine lv_aload_n (pc := 39) hx hb dM_jumps_39 rfl (lv_at hl 1 rfl) ?_
  refine lv_iload_n (pc := 40) hx hb dM_jumps_40 rfl (lv_at hl 4 rfl) ?_
  refine pM (pc := 41) (ty := .int) C hW 19 9 (by decide) q_1676 rfl rfl (by decide +kernel) rfl rfl (st_at dA h _ _) dM_jumps_41 (fun H locs hW => ?_)
  obtain ⟨σ1, eσ1, hM⟩ := bnd_some hM
  rw [← eσ1] at hW
  refine lv_iload_n (pc := 44) hx hb dM_jumps_44 rfl (lv_at hl 2 rfl) ?_
  refine lv_bipush (pc := 45) (v := 34) hx hb dM_jumps_45 (by decide) ?_
  refine lv_icmp_eq (pc := 47) (tgt := 55) hx hb dM_jumps_47 (by decide) (fun hc => ?_) (fun hc => ?_)
  · replace hM := it_t hc hM
    exact bM_jumps_55 N  C  _ _ _ hM _ _ hW _ (lv_sub hl [1, 2, 3] rfl)
  · replace hM := it_f hc hM
    refine lv_iload (pc := 50) hx hb dM_jumps_50 (lv_at hl 0 rfl) ?_
    refine lv_if_ne (pc := 52) (tgt := 71) hx hb dM_jumps_52 (by decide) (fun hc => ?_) (fun hc => ?_)
    · replace hM := it_f hc hM
      refine lv_aload_n (pc := 71) hx hb dM_jumps_71 rfl (lv_at hl 1 rfl) ?_
      obtain ⟨r2, σ3, hr2, hM⟩ := cl_some hM
      refine x_callMi (pc := 72) C hW (kM_taken l D dA h N _ hr2) gM_taken_541 ⟨rfl, by decide, by decide, by decide +kernel⟩ ⟨rfl, rfl⟩ ⟨by decide, by decide⟩ ⟨by decide, by decide⟩ (As := []) (n := 0) rfl hl.1 rfl (Nat.le_of_ble_eq_true rfl) dM_jumps_72 (fun H locs hW => ?_)
      refine lv_istore (pc := 75) (lv' := [(5, .int r2), (4, .int t0), (0, .ref (h 0)), (1, .int x1), (2, .int x2), (3, .int x3)]) hx hb dM_jumps_75 hl (by decide) rfl (fun ls hl => ?_)
      refine lv_aload_n (pc := 77) hx hb dM_jumps_77 rfl (lv_at hl 2 rfl) ?_
      obtain ⟨r4, σ5, hr4, hM⟩ := cl_some hM
      refine x_callMi (pc := 78) C hW (kM_comma l D dA h N _ hr4) gM_comma_591 ⟨rfl, by decide, by decide, by decide +kernel⟩ ⟨rfl, rfl⟩ ⟨by decide, by decide⟩ ⟨by decide, by decide⟩ (As := []) (n := 0) rfl hl.1 rfl (Nat.le_of_ble_eq_true rfl) dM_jumps_78 (fun H locs hW => ?_)
      refine lv_if_ne (pc := 81) (tgt := 85) hx hb dM_jumps_81 (by decide) (fun hc => ?_) (fun hc => ?_)
      · replace hM := it_f hc hM
        refine lv_aload_n (pc := 85) hx hb dM_jumps_85 rfl (lv_at hl 2 rfl) ?_
        obtain ⟨r6, σ7, hr6, hM⟩ := cl_some hM
        refine x_callMi (pc := 86) C hW (kM_expression l D dA h N _ hr6) gM_expression_534 ⟨rfl, by decide, by decide, by decide +kernel⟩ ⟨rfl, rfl⟩ ⟨by decide, by decide⟩ ⟨by decide, by decide⟩ (As := []) (n := 0) rfl hl.1 rfl (Nat.le_of_ble_eq_true rfl) dM_jumps_86 (fun H locs hW => ?_)
        refine lv_aload_n (pc := 89) hx hb dM_jumps_89 rfl (lv_at hl 2 rfl) ?_
        refine gM (pc := 90) C hW 29 (by decide) q_1686 rfl rfl dM_jumps_90 ?_
        refine lv_isub (pc := 93) hx hb dM_jumps_93 ?_
        refine lv_istore (pc := 94) (lv' := [(6, .int (r6 - (σ7.1 19))), (5, .int r2), (4, .int t0), (0, .ref (h 0)), (1, .int x1), (2, .int x2), (3, .int x3)]) hx hb dM_jumps_94 hl (by decide) rfl (fun ls hl => ?_)
        refine lv_aload_n (pc := 96) hx hb dM_jumps_96 rfl (lv_at hl 3 rfl) ?_
        refine lv_iload (pc := 97) hx hb dM_jumps_97 (lv_at hl 0 rfl) ?_
        refine lv_ldcw (pc := 99) (v := -1048576) hx hb hown (hT _ q_2027) dM_jumps_99 ?_
        refine lv_ldcw (pc := 102) (v := 1048574) hx hb hown (hT _ q_2009) dM_jumps_102 ?_
        refine lv_iconst (pc := 105) (v := 2) hx hb dM_jumps_105 (by decide) ?_
        obtain ⟨r8, σ9, hr8, hM⟩ := cl_some hM
        refine x_callMv (pc := 106) C hW (kM_fits l D dA h  (r6 - (σ7.1 19)) (-1048576 : Int32) (1048574 : Int32) (2 : Int32) _ hr8) gM_fits_537 ⟨rfl, by decide, by decide, by decide +kernel⟩ ⟨rfl, rfl⟩ ⟨by decide, by decide⟩ ⟨by decide, by decide⟩ (As := [.int (r6 - (σ7.1 19)), .int (-1048576 : Int32), .int (1048574 : Int32), .int (2 : Int32)]) (n := 4) rfl hl.1 rfl (Nat.le_of_ble_eq_true rfl) dM_jumps_106 (fun H locs hW => ?_)
        refine lv_aload_n (pc := 109) hx hb dM_jumps_109 rfl (lv_at hl 3 rfl) ?_
        refine lv_iload_n (pc := 110) hx hb dM_jumps_110 rfl (lv_at hl 5 rfl) ?_
        refine lv_iload (pc := 111) hx hb dM_jumps_111 (lv_at hl 1 rfl) ?_
        refine lv_bipush (pc := 113) (v := 7) hx hb dM_jumps_113 (by decide) ?_
        refine lv_ishl (pc := 115) hx hb dM_jumps_115 ?_
        refine lv_ior (pc := 116) hx hb dM_jumps_116 ?_
        refine lv_iload (pc := 117) hx hb dM_jumps_117 (lv_at hl 0 rfl) ?_
        obtain ⟨r10, hr10, hM⟩ := cr_some hM
        refine x_callSi (pc := 119) C.1 (kM_jumpBits l  (r6 - (σ7.1 19)) hr10) gM_jumpBits_576 ⟨rfl, by decide, by decide, by decide +kernel⟩ ⟨rfl, rfl⟩ ⟨by decide, by decide⟩ ⟨by decide, by decide⟩ (As := [.int (r6 - (σ7.1 19))]) (n := 1) rfl hl.1 rfl (Nat.le_of_ble_eq_true rfl) dM_jumps_119 ?_
        refine lv_ior (pc := 122) hx hb dM_jumps_122 ?_
        obtain ⟨r11, σ12, hr11, hM⟩ := cl_some hM
        refine x_callMv (pc := 123) C hW (kM_word l D dA h  ((x2 ||| (r2 <<< ((7 : Int32) &&& 31))) ||| r10) _ hr11) gM_word_579 ⟨rfl, by decide, by decide, by decide +kernel⟩ ⟨rfl, rfl⟩ ⟨by decide, by decide⟩ ⟨by decide, by decide⟩ (As := [.int ((x2 ||| (r2 <<< ((7 : Int32) &&& 31))) ||| r10)]) (n := 1) rfl hl.1 rfl (Nat.le_of_ble_eq_true rfl) dM_jumps_123 (fun H locs hW => ?_)
        obtain ⟨rfl, rfl⟩ := sm_p hM
        exact x_retMv (pc := 126) C rfl hW dM_jumps_126
      · replace hM := it_t hc hM
        obtain ⟨rfl, rfl⟩ := sm_p hM
        exact x_retMv (pc := 84) C rfl hW dM_jumps_84
    · replace hM := it_t hc hM
      exact bM_jumps_55 N  C  _ _ _ hM _ _ hW _ (lv_sub hl [1, 2, 3] rfl)
def M_jumps_36 (N : Nat) (x1 : Int32) (x2 : Int32) (x3 : Int32) (σ : MS) : Option (Int32 × MS) :=
  M_jumps_37 N  x1 x2 x3 (0 : Int32) σ
set_option maxHeartbeats 4000000 in
set_option maxRecDepth 100000 in
theorem bM_jumps_36 (N : Nat)  {r : Int32} {σ' : MS} (C : CxM p s m args meth c cM_jumps 7 none D dA A) (x1 : Int32) (x2 : Int32) (x3 : Int32) (σ : MS) (hM : M_jumps_36 N  x1 x2 x3 σ = some (r, σ')) (H : Heap) (locs : List Loc) (hW : WdM D dA h A s σ H locs) (ls : Array Slot) (hl : lv_has ls 7 [(0, .ref (h 0)), (1, .int x1), (2, .int x2), (3, .int x3)]) : W p l e rm_jumps s m args below meth c H locs 0 0 (MQ below (QM D dA h A σ' none) args s 0 0 A) (F0 m 36 ls []) := by
  have hx := C.1.1
  have hb := C.1.2.1
  have hown := C.1.2.2.2.2.1
  have hT := C.1.2.2.2.2.2.1
  unfold M_jumps_36 at hM
  refine lv_iconst (pc := 36) (v := 0) hx hb dM_jumps_36 (by decide) ?_
  exact bM_jumps_37 N  C  _ _ _ _ _ hM _ _ hW _ (lv_sub hl [0, 1, 2, 3] rfl)
def M_jumps (N : Nat) (x1 : Int32) (x2 : Int32) (σ : MS) : Option (Int32 × MS) :=
  cl (M_scan N σ) (fun r1 σ2 => (if (σ2.1 10) = (1 : Int32) then cr (M_register N (σ2.1 11) (σ2.1 12) σ2) (fun r3 => (if r3 < 0 then M_jumps_36 N  x1 x2 (σ.1 9) σ2 else M_jumps_37 N  x1 x2 (σ.1 9) (1 : Int32) σ2)) else M_jumps_36 N  x1 x2 (σ.1 9) σ2))
set_option maxHeartbeats 4000000 in
set_option maxRecDepth 100000 in
theorem bM_jumps_0 (N : Nat)  {r : Int32} {σ' : MS} (C : CxM p s m args meth c cM_jumps 7 none D dA A) (x1 : Int32) (x2 : Int32) (σ : MS) (hM : M_jumps N  x1 x2 σ = some (r, σ')) (H : Heap) (locs : List Loc) (hW : WdM D dA h A s σ H locs) (ls : Array Slot) (hl : lv_has ls 7 [(0, .ref (h 0)), (1, .int x1), (2, .int x2)]) : W p l e rm_jumps s m args below meth c H locs 0 0 (MQ below (QM D dA h A σ' none) args s 0 0 A) (F0 m 0 ls []) := by
  have hx := C.1.1
  have hb := C.1.2.1
  have hown := C.1.2.2.2.2.1
  have hT := C.1.2.2.2.2.2.1
  unfold M_jumps at hM
  refine lv_aload_n (pc := 0) hx hb dM_jumps_0 rfl (lv_at hl 0 rfl) ?_
  refine gM (pc := 1) C hW 19 (by decide) q_1676 rfl rfl dM_jumps_1 ?_
  refine lv_istore_n (pc := 4) (lv' := [(3, .int (σ.1 9)), (0, .ref (h 0)), (1, .int x1), (2, .int x2)]) hx hb dM_jumps_4 rfl hl (by decide) rfl (fun ls hl => ?_)
  refine lv_aload_n (pc := 5) hx hb dM_jumps_5 rfl (lv_at hl 1 rfl) ?_
  obtain ⟨r1, σ2, hr1, hM⟩ := cl_some hM
  refine x_callMv (pc := 6) C hW (kM_scan l D dA h N _ hr1) gM_scan_426 ⟨rfl, by decide, by decide, by decide +kernel⟩ ⟨rfl, rfl⟩ ⟨by decide, by decide⟩ ⟨by decide, by decide⟩ (As := []) (n := 0) rfl hl.1 rfl (Nat.le_of_ble_eq_true rfl) dM_jumps_6 (fun H locs hW => ?_)
  refine lv_aload_n (pc := 9) hx hb dM_jumps_9 rfl (lv_at hl 1 rfl) ?_
  refine gM (pc := 10) C hW 20 (by decide) q_1677 rfl rfl dM_jumps_10 ?_
  refine lv_iconst (pc := 13) (v := 1) hx hb dM_jumps_13 (by decide) ?_
  refine lv_icmp_ne (pc := 14) (tgt := 36) hx hb dM_jumps_14 (by decide) (fun hc => ?_) (fun hc => ?_)
  · replace hM := it_f hc hM
    exact bM_jumps_36 N  C  _ _ _ _ hM _ _ hW _ (lv_sub hl [1, 2, 3, 0] rfl)
  · replace hM := it_t hc hM
    refine lv_aload_n (pc := 17) hx hb dM_jumps_17 rfl (lv_at hl 1 rfl) ?_
    refine lv_aload_n (pc := 18) hx hb dM_jumps_18 rfl (lv_at hl 1 rfl) ?_
    refine gM (pc := 19) C hW 21 (by decide) q_1678 rfl rfl dM_jumps_19 ?_
    refine lv_aload_n (pc := 22) hx hb dM_jumps_22 rfl (lv_at hl 1 rfl) ?_
    refine gM (pc := 23) C hW 22 (by decide) q_1679 rfl rfl dM_jumps_23 ?_
    obtain ⟨r3, hr3, hM⟩ := cr_some hM
    refine x_callRi (pc := 26) C hW (kM_register l D dA h N (σ2.1 11) (σ2.1 12) _ hr3) gM_register_486 ⟨rfl, by decide, by decide, by decide +kernel⟩ ⟨rfl, rfl⟩ ⟨by decide, by decide⟩ ⟨by decide, by decide⟩ (As := [.int (σ2.1 11), .int (σ2.1 12)]) (n := 2) rfl hl.1 rfl (Nat.le_of_ble_eq_true rfl) dM_jumps_26 ?_
    refine lv_if_lt (pc := 29) (tgt := 36) hx hb dM_jumps_29 (by decide) (fun hc => ?_) (fun hc => ?_)
    · replace hM := it_t hc hM
      exact bM_jumps_36 N  C  _ _ _ _ hM _ _ hW _ (lv_sub hl [1, 2, 3, 0] rfl)
    · replace hM := it_f hc hM
      refine lv_iconst (pc := 32) (v := 1) hx hb dM_jumps_32 (by decide) ?_
      refine lv_goto (pc := 33) (tgt := 37) hx hb dM_jumps_33 (by decide) ?_
      exact bM_jumps_37 N  C  _ _ _ _ _ hM _ _ hW _ (lv_sub hl [1, 2, 3, 0] rfl)
theorem kM_jumps (l : Launch) (D : va_G) (dA : Nat → ClassId) (h : Nat → Nat) (N : Nat) (x1 : Int32) (x2 : Int32) (σ : MS) {r : Int32} {σ' : MS} (hM : M_jumps N x1 x2 σ = some (r, σ')) : KM l D dA yM_jumps cM_jumps 7 none rm_jumps h σ [.int x1, .int x2] none σ' := x_enterM rfl (Nat.le_of_ble_eq_true rfl) (fun p e s m args below meth c A C hW ls hl => bM_jumps_0 N C x1 x2 σ hM s.heap [] hW ls hl)
def M_bracketed_32 (N : Nat) (x1 : Int32) (σ : MS) : Option (Int32 × MS) :=
  some (x1, σ)
set_option maxHeartbeats 4000000 in
set_option maxRecDepth 100000 in
theorem bM_bracketed_32 (N : Nat)  {r : Int32} {σ' : MS} (C : CxM p s m args meth c cM_bracketed 2 (some .int) D dA A) (x1 : Int32) (σ : MS) (hM : M_bracketed_32 N  x1 σ = some (r, σ')) (H : Heap) (locs : List Loc) (hW : WdM D dA h A s σ H locs) (ls : Array Slot) (hl : lv_has ls 2 [(1, .int x1)]) : W p l e rm_bracketed s m args below meth c H locs 0 0 (MQ below (QM D dA h A σ' (some (.int r))) args s 0 0 A) (F0 m 32 ls []) := by
  have hx := C.1.1
  have hb := C.1.2.1
  have hown := C.1.2.2.2.2.1
  have hT := C.1.2.2.2.2.2.1
  unfold M_bracketed_32 at hM
  refine lv_iload_n (pc := 32) hx hb dM_bracketed_32 rfl (lv_at hl 0 rfl) ?_
  obtain ⟨rfl, rfl⟩ := sm_p hM
  exact x_retMi (pc := 33) C rfl hW dM_bracketed_33
def M_bracketed_17 (N : Nat) (t0 : Int32) (σ : MS) : Option (Int32 × MS) :=
  (if (σ.1 14) = 0 then cl (M_needs N (41 : Int32) σ) (fun r1 σ2 => M_bracketed_32 N  t0 σ2) else M_bracketed_32 N  t0 σ)
set_option maxHeartbeats 4000000 in
set_option maxRecDepth 100000 in
theorem bM_bracketed_17 (N : Nat)  {r : Int32} {σ' : MS} (C : CxM p s m args meth c cM_bracketed 2 (some .int) D dA A) (t0 : Int32) (σ : MS) (hM : M_bracketed_17 N  t0 σ = some (r, σ')) (H : Heap) (locs : List Loc) (hW : WdM D dA h A s σ H locs) (ls : Array Slot) (hl : lv_has ls 2 [(0, .ref (h 0))]) : W p l e rm_bracketed s m args below meth c H locs 0 0 (MQ below (QM D dA h A σ' (some (.int r))) args s 0 0 A) (F0 m 17 ls [.int t0]) := by
  have hx := C.1.1
  have hb := C.1.2.1
  have hown := C.1.2.2.2.2.1
  have hT := C.1.2.2.2.2.2.1
  unfold M_bracketed_17 at hM
  refine lv_istore_n (pc := 17) (lv' := [(1, .int t0), (0, .ref (h 0))]) hx hb dM_bracketed_17 rfl hl (by decide) rfl (fun ls hl => ?_)
  refine lv_aload_n (pc := 18) hx hb dM_bracketed_18 rfl (lv_at hl 1 rfl) ?_
  refine gM (pc := 19) C hW 24 (by decide) q_1681 rfl rfl dM_bracketed_19 ?_
  refine lv_if_ne (pc := 22) (tgt := 32) hx hb dM_bracketed_22 (by decide) (fun hc => ?_) (fun hc => ?_)
  · replace hM := it_f hc hM
    exact bM_bracketed_32 N  C  _ _ hM _ _ hW _ (lv_sub hl [0] rfl)
  · replace hM := it_t hc hM
    refine lv_aload_n (pc := 25) hx hb dM_bracketed_25 rfl (lv_at hl 1 rfl) ?_
    refine lv_bipush (pc := 26) (v := 41) hx hb dM_bracketed_26 (by decide) ?_
    obtain ⟨r1, σ2, hr1, hM⟩ := cl_some hM
    refine x_callMi (pc := 28) C hW (kM_needs l D dA h N (41 : Int32) _ hr1) gM_needs_515 ⟨rfl, by decide, by decide, by decide +kernel⟩ ⟨rfl, rfl⟩ ⟨by decide, by decide⟩ ⟨by decide, by decide⟩ (As := [.int (41 : Int32)]) (n := 1) rfl hl.1 rfl (Nat.le_of_ble_eq_true rfl) dM_bracketed_28 (fun H locs hW => ?_)
    refine lv_pop (pc := 31) hx hb dM_bracketed_31 rfl ?_
    exact bM_bracketed_32 N  C  _ _ hM _ _ hW _ (lv_sub hl [0] rfl)
def M_bracketed (N : Nat)  (σ : MS) : Option (Int32 × MS) :=
  cl (M_needs N (40 : Int32) σ) (fun r1 σ2 => (if r1 = 0 then M_bracketed_17 N  (0 : Int32) σ2 else cl (M_taken N σ2) (fun r3 σ4 => M_bracketed_17 N  r3 σ4)))
set_option maxHeartbeats 4000000 in
set_option maxRecDepth 100000 in
theorem bM_bracketed_0 (N : Nat)  {r : Int32} {σ' : MS} (C : CxM p s m args meth c cM_bracketed 2 (some .int) D dA A)  (σ : MS) (hM : M_bracketed N   σ = some (r, σ')) (H : Heap) (locs : List Loc) (hW : WdM D dA h A s σ H locs) (ls : Array Slot) (hl : lv_has ls 2 [(0, .ref (h 0))]) : W p l e rm_bracketed s m args below meth c H locs 0 0 (MQ below (QM D dA h A σ' (some (.int r))) args s 0 0 A) (F0 m 0 ls []) := by
  have hx := C.1.1
  have hb := C.1.2.1
  have hown := C.1.2.2.2.2.1
  have hT := C.1.2.2.2.2.2.1
  unfold M_bracketed at hM
  refine lv_aload_n (pc := 0) hx hb dM_bracketed_0 rfl (lv_at hl 0 rfl) ?_
  refine lv_bipush (pc := 1) (v := 40) hx hb dM_bracketed_1 (by decide) ?_
  obtain ⟨r1, σ2, hr1, hM⟩ := cl_some hM
  refine x_callMi (pc := 3) C hW (kM_needs l D dA h N (40 : Int32) _ hr1) gM_needs_515 ⟨rfl, by decide, by decide, by decide +kernel⟩ ⟨rfl, rfl⟩ ⟨by decide, by decide⟩ ⟨by decide, by decide⟩ (As := [.int (40 : Int32)]) (n := 1) rfl hl.1 rfl (Nat.le_of_ble_eq_true rfl) dM_bracketed_3 (fun H locs hW => ?_)
  refine lv_if_eq (pc := 6) (tgt := 16) hx hb dM_bracketed_6 (by decide) (fun hc => ?_) (fun hc => ?_)
  · replace hM := it_t hc hM
    refine lv_iconst (pc := 16) (v := 0) hx hb dM_bracketed_16 (by decide) ?_
    exact bM_bracketed_17 N  C  _ _ hM _ _ hW _ (lv_sub hl [0] rfl)
  · replace hM := it_f hc hM
    refine lv_aload_n (pc := 9) hx hb dM_bracketed_9 rfl (lv_at hl 0 rfl) ?_
    obtain ⟨r3, σ4, hr3, hM⟩ := cl_some hM
    refine x_callMi (pc := 10) C hW (kM_taken l D dA h N _ hr3) gM_taken_541 ⟨rfl, by decide, by decide, by decide +kernel⟩ ⟨rfl, rfl⟩ ⟨by decide, by decide⟩ ⟨by decide, by decide⟩ (As := []) (n := 0) rfl hl.1 rfl (Nat.le_of_ble_eq_true rfl) dM_bracketed_10 (fun H locs hW => ?_)
    refine lv_goto (pc := 13) (tgt := 17) hx hb dM_bracketed_13 (by decide) ?_
    exact bM_bracketed_17 N  C  _ _ hM _ _ hW _ (lv_sub hl [0] rfl)
theorem kM_bracketed (l : Launch) (D : va_G) (dA : Nat → ClassId) (h : Nat → Nat) (N : Nat)  (σ : MS) {r : Int32} {σ' : MS} (hM : M_bracketed N  σ = some (r, σ')) : KM l D dA yM_bracketed cM_bracketed 2 (some .int) rm_bracketed h σ [] (some (.int r)) σ' := x_enterM rfl (Nat.le_of_ble_eq_true rfl) (fun p e s m args below meth c A C hW ls hl => bM_bracketed_0 N C  σ hM s.heap [] hW ls hl)
def M_within (N : Nat) (x1 : Int32) (x2 : Int32) (x3 : Int32) (σ : MS) : Option (Int32 × MS) :=
  cl (M_expression N σ) (fun r1 σ2 => cl (M_fits  r1 x1 x2 x3 σ2) (fun r3 σ4 => some (r1, σ4)))
set_option maxHeartbeats 4000000 in
set_option maxRecDepth 100000 in
theorem bM_within_0 (N : Nat)  {r : Int32} {σ' : MS} (C : CxM p s m args meth c cM_within 5 (some .int) D dA A) (x1 : Int32) (x2 : Int32) (x3 : Int32) (σ : MS) (hM : M_within N  x1 x2 x3 σ = some (r, σ')) (H : Heap) (locs : List Loc) (hW : WdM D dA h A s σ H locs) (ls : Array Slot) (hl : lv_has ls 5 [(0, .ref (h 0)), (1, .int x1), (2, .int x2), (3, .int x3)]) : W p l e rm_within s m args below meth c H locs 0 0 (MQ below (QM D dA h A σ' (some (.int r))) args s 0 0 A) (F0 m 0 ls []) := by
  have hx := C.1.1
  have hb := C.1.2.1
  have hown := C.1.2.2.2.2.1
  have hT := C.1.2.2.2.2.2.1
  unfold M_within at hM
  refine lv_aload_n (pc := 0) hx hb dM_within_0 rfl (lv_at hl 0 rfl) ?_
  obtain ⟨r1, σ2, hr1, hM⟩ := cl_some hM
  refine x_callMi (pc := 1) C hW (kM_expression l D dA h N _ hr1) gM_expression_534 ⟨rfl, by decide, by decide, by decide +kernel⟩ ⟨rfl, rfl⟩ ⟨by decide, by decide⟩ ⟨by decide, by decide⟩ (As := []) (n := 0) rfl hl.1 rfl (Nat.le_of_ble_eq_true rfl) dM_within_1 (fun H locs hW => ?_)
  refine lv_istore (pc := 4) (lv' := [(4, .int r1), (0, .ref (h 0)), (1, .int x1), (2, .int x2), (3, .int x3)]) hx hb dM_within_4 hl (by decide) rfl (fun ls hl => ?_)
  refine lv_aload_n (pc := 6) hx hb dM_within_6 rfl (lv_at hl 1 rfl) ?_
  refine lv_iload (pc := 7) hx hb dM_within_7 (lv_at hl 0 rfl) ?_
  refine lv_iload_n (pc := 9) hx hb dM_within_9 rfl (lv_at hl 2 rfl) ?_
  refine lv_iload_n (pc := 10) hx hb dM_within_10 rfl (lv_at hl 3 rfl) ?_
  refine lv_iload_n (pc := 11) hx hb dM_within_11 rfl (lv_at hl 4 rfl) ?_
  obtain ⟨r3, σ4, hr3, hM⟩ := cl_some hM
  refine x_callMv (pc := 12) C hW (kM_fits l D dA h  r1 x1 x2 x3 _ hr3) gM_fits_537 ⟨rfl, by decide, by decide, by decide +kernel⟩ ⟨rfl, rfl⟩ ⟨by decide, by decide⟩ ⟨by decide, by decide⟩ (As := [.int r1, .int x1, .int x2, .int x3]) (n := 4) rfl hl.1 rfl (Nat.le_of_ble_eq_true rfl) dM_within_12 (fun H locs hW => ?_)
  refine lv_iload (pc := 15) hx hb dM_within_15 (lv_at hl 0 rfl) ?_
  obtain ⟨rfl, rfl⟩ := sm_p hM
  exact x_retMi (pc := 17) C rfl hW dM_within_17
theorem kM_within (l : Launch) (D : va_G) (dA : Nat → ClassId) (h : Nat → Nat) (N : Nat) (x1 : Int32) (x2 : Int32) (x3 : Int32) (σ : MS) {r : Int32} {σ' : MS} (hM : M_within N x1 x2 x3 σ = some (r, σ')) : KM l D dA yM_within cM_within 5 (some .int) rm_within h σ [.int x1, .int x2, .int x3] (some (.int r)) σ' := x_enterM rfl (Nat.le_of_ble_eq_true rfl) (fun p e s m args below meth c A C hW ls hl => bM_within_0 N C x1 x2 x3 σ hM s.heap [] hW ls hl)
def M_longs_384 (N : Nat)  (σ : MS) : Option (Int32 × MS) :=
  some ((0 : Int32), σ)
set_option maxHeartbeats 4000000 in
set_option maxRecDepth 100000 in
theorem bM_longs_384 (N : Nat)  {r : Int32} {σ' : MS} (C : CxM p s m args meth c cM_longs 6 none D dA A)  (σ : MS) (hM : M_longs_384 N   σ = some (r, σ')) (H : Heap) (locs : List Loc) (hW : WdM D dA h A s σ H locs) (ls : Array Slot) (hl : lv_has ls 6 []) : W p l e rm_longs s m args below meth c H locs 0 0 (MQ below (QM D dA h A σ' none) args s 0 0 A) (F0 m 384 ls []) := by
  have hx := C.1.1
  have hb := C.1.2.1
  have hown := C.1.2.2.2.2.1
  have hT := C.1.2.2.2.2.2.1
  unfold M_longs_384 at hM
  obtain ⟨rfl, rfl⟩ := sm_p hM
  exact x_retMv (pc := 384) C rfl hW dM_longs_384
def M_longs_171 (N : Nat) (t1 : Int32) (σ : MS) : Option (Int32 × MS) :=
  cl (M_word  t1 σ) (fun r1 σ2 => M_longs_384 N  σ2)
set_option maxHeartbeats 4000000 in
set_option maxRecDepth 100000 in
theorem bM_longs_171 (N : Nat)  {r : Int32} {σ' : MS} (C : CxM p s m args meth c cM_longs 6 none D dA A) (t1 : Int32) (σ : MS) (hM : M_longs_171 N  t1 σ = some (r, σ')) (H : Heap) (locs : List Loc) (hW : WdM D dA h A s σ H locs) (ls : Array Slot) (hl : lv_has ls 6 []) : W p l e rm_longs s m args below meth c H locs 0 0 (MQ below (QM D dA h A σ' none) args s 0 0 A) (F0 m 171 ls [.int t1, .ref (h 0)]) := by
  have hx := C.1.1
  have hb := C.1.2.1
  have hown := C.1.2.2.2.2.1
  have hT := C.1.2.2.2.2.2.1
  unfold M_longs_171 at hM
  obtain ⟨r1, σ2, hr1, hM⟩ := cl_some hM
  refine x_callMv (pc := 171) C hW (kM_word l D dA h  t1 _ hr1) gM_word_579 ⟨rfl, by decide, by decide, by decide +kernel⟩ ⟨rfl, rfl⟩ ⟨by decide, by decide⟩ ⟨by decide, by decide⟩ (As := [.int t1]) (n := 1) rfl hl.1 rfl (Nat.le_of_ble_eq_true rfl) dM_longs_171 (fun H locs hW => ?_)
  refine lv_goto (pc := 174) (tgt := 384) hx hb dM_longs_174 (by decide) ?_
  exact bM_longs_384 N  C   _ hM _ _ hW _ (lv_sub hl [] rfl)
def M_longs_109 (N : Nat) (x1 : Int32) (x2 : Int32) (x3 : Int32) (x4 : Int32) (t0 : Int32) (σ : MS) : Option (Int32 × MS) :=
  (if x1 = (5 : Int32) then cr (M_bits  x4 (11 : Int32) (5 : Int32) (25 : Int32)) (fun r1 => cr (M_bits  x4 (4 : Int32) (0 : Int32) (7 : Int32)) (fun r2 => M_longs_171 N  ((((x2 ||| r1) ||| r2) ||| (t0 <<< ((15 : Int32) &&& 31))) ||| (x3 <<< ((20 : Int32) &&& 31))) σ)) else M_longs_171 N  (((x2 ||| (x3 <<< ((7 : Int32) &&& 31))) ||| (t0 <<< ((15 : Int32) &&& 31))) ||| (x4 <<< ((20 : Int32) &&& 31))) σ)
set_option maxHeartbeats 4000000 in
set_option maxRecDepth 100000 in
theorem bM_longs_109 (N : Nat)  {r : Int32} {σ' : MS} (C : CxM p s m args meth c cM_longs 6 none D dA A) (x1 : Int32) (x2 : Int32) (x3 : Int32) (x4 : Int32) (t0 : Int32) (σ : MS) (hM : M_longs_109 N  x1 x2 x3 x4 t0 σ = some (r, σ')) (H : Heap) (locs : List Loc) (hW : WdM D dA h A s σ H locs) (ls : Array Slot) (hl : lv_has ls 6 [(0, .ref (h 0)), (1, .int x1), (2, .int x2), (3, .int x3), (4, .int x4)]) : W p l e rm_longs s m args below meth c H locs 0 0 (MQ below (QM D dA h A σ' none) args s 0 0 A) (F0 m 109 ls [.int t0]) := by
  have hx := C.1.1
  have hb := C.1.2.1
  have hown := C.1.2.2.2.2.1
  have hT := C.1.2.2.2.2.2.1
  unfold M_longs_109 at hM
  refine lv_istore (pc := 109) (lv' := [(5, .int t0), (0, .ref (h 0)), (1, .int x1), (2, .int x2), (3, .int x3), (4, .int x4)]) hx hb dM_longs_109 hl (by decide) rfl (fun ls hl => ?_)
  refine lv_aload_n (pc := 111) hx hb dM_longs_111 rfl (lv_at hl 1 rfl) ?_
  refine lv_iload_n (pc := 112) hx hb dM_longs_112 rfl (lv_at hl 2 rfl) ?_
  refine lv_iconst (pc := 113) (v := 5) hx hb dM_longs_113 (by decide) ?_
  refine lv_icmp_ne (pc := 114) (tgt := 153) hx hb dM_longs_114 (by decide) (fun hc => ?_) (fun hc => ?_)
  · replace hM := it_f hc hM
    refine lv_iload_n (pc := 153) hx hb dM_longs_153 rfl (lv_at hl 3 rfl) ?_
    refine lv_iload_n (pc := 154) hx hb dM_longs_154 rfl (lv_at hl 4 rfl) ?_
    refine lv_bipush (pc := 155) (v := 7) hx hb dM_longs_155 (by decide) ?_
    refine lv_ishl (pc := 157) hx hb dM_longs_157 ?_
    refine lv_ior (pc := 158) hx hb dM_longs_158 ?_
    refine lv_iload (pc := 159) hx hb dM_longs_159 (lv_at hl 0 rfl) ?_
    refine lv_bipush (pc := 161) (v := 15) hx hb dM_longs_161 (by decide) ?_
    refine lv_ishl (pc := 163) hx hb dM_longs_163 ?_
    refine lv_ior (pc := 164) hx hb dM_longs_164 ?_
    refine lv_iload (pc := 165) hx hb dM_longs_165 (lv_at hl 5 rfl) ?_
    refine lv_bipush (pc := 167) (v := 20) hx hb dM_longs_167 (by decide) ?_
    refine lv_ishl (pc := 169) hx hb dM_longs_169 ?_
    refine lv_ior (pc := 170) hx hb dM_longs_170 ?_
    exact bM_longs_171 N  C  _ _ hM _ _ hW _ (lv_sub hl [] rfl)
  · replace hM := it_t hc hM
    refine lv_iload_n (pc := 117) hx hb dM_longs_117 rfl (lv_at hl 3 rfl) ?_
    refine lv_iload (pc := 118) hx hb dM_longs_118 (lv_at hl 5 rfl) ?_
    refine lv_bipush (pc := 120) (v := 11) hx hb dM_longs_120 (by decide) ?_
    refine lv_iconst (pc := 122) (v := 5) hx hb dM_longs_122 (by decide) ?_
    refine lv_bipush (pc := 123) (v := 25) hx hb dM_longs_123 (by decide) ?_
    obtain ⟨r1, hr1, hM⟩ := cr_some hM
    refine x_callSi (pc := 125) C.1 (kM_bits l  x4 (11 : Int32) (5 : Int32) (25 : Int32) hr1) gM_bits_559 ⟨rfl, by decide, by decide, by decide +kernel⟩ ⟨rfl, rfl⟩ ⟨by decide, by decide⟩ ⟨by decide, by decide⟩ (As := [.int x4, .int (11 : Int32), .int (5 : Int32), .int (25 : Int32)]) (n := 4) rfl hl.1 rfl (Nat.le_of_ble_eq_true rfl) dM_longs_125 ?_
    refine lv_ior (pc := 128) hx hb dM_longs_128 ?_
    refine lv_iload (pc := 129) hx hb dM_longs_129 (lv_at hl 5 rfl) ?_
    refine lv_iconst (pc := 131) (v := 4) hx hb dM_longs_131 (by decide) ?_
    refine lv_iconst (pc := 132) (v := 0) hx hb dM_longs_132 (by decide) ?_
    refine lv_bipush (pc := 133) (v := 7) hx hb dM_longs_133 (by decide) ?_
    obtain ⟨r2, hr2, hM⟩ := cr_some hM
    refine x_callSi (pc := 135) C.1 (kM_bits l  x4 (4 : Int32) (0 : Int32) (7 : Int32) hr2) gM_bits_559 ⟨rfl, by decide, by decide, by decide +kernel⟩ ⟨rfl, rfl⟩ ⟨by decide, by decide⟩ ⟨by decide, by decide⟩ (As := [.int x4, .int (4 : Int32), .int (0 : Int32), .int (7 : Int32)]) (n := 4) rfl hl.1 rfl (Nat.le_of_ble_eq_true rfl) dM_longs_135 ?_
    refine lv_ior (pc := 138) hx hb dM_longs_138 ?_
    refine lv_iload (pc := 139) hx hb dM_longs_139 (lv_at hl 0 rfl) ?_
    refine lv_bipush (pc := 141) (v := 15) hx hb dM_longs_141 (by decide) ?_
    refine lv_ishl (pc := 143) hx hb dM_longs_143 ?_
    refine lv_ior (pc := 144) hx hb dM_longs_144 ?_
    refine lv_iload_n (pc := 145) hx hb dM_longs_145 rfl (lv_at hl 4 rfl) ?_
    refine lv_bipush (pc := 146) (v := 20) hx hb dM_longs_146 (by decide) ?_
    refine lv_ishl (pc := 148) hx hb dM_longs_148 ?_
    refine lv_ior (pc := 149) hx hb dM_longs_149 ?_
    refine lv_goto (pc := 150) (tgt := 171) hx hb dM_longs_150 (by decide) ?_
    exact bM_longs_171 N  C  _ _ hM _ _ hW _ (lv_sub hl [] rfl)
def M_longs_81 (N : Nat) (x1 : Int32) (x2 : Int32) (x3 : Int32) (σ : MS) : Option (Int32 × MS) :=
  cl (M_within N (-2048 : Int32) (2047 : Int32) (1 : Int32) σ) (fun r1 σ2 => (if (σ2.1 14) = 0 then cl (M_bracketed N σ2) (fun r3 σ4 => M_longs_109 N  x1 x2 x3 r1 r3 σ4) else M_longs_109 N  x1 x2 x3 r1 (0 : Int32) σ2))
set_option maxHeartbeats 4000000 in
set_option maxRecDepth 100000 in
theorem bM_longs_81 (N : Nat)  {r : Int32} {σ' : MS} (C : CxM p s m args meth c cM_longs 6 none D dA A) (x1 : Int32) (x2 : Int32) (x3 : Int32) (σ : MS) (hM : M_longs_81 N  x1 x2 x3 σ = some (r, σ')) (H : Heap) (locs : List Loc) (hW : WdM D dA h A s σ H locs) (ls : Array Slot) (hl : lv_has ls 6 [(0, .ref (h 0)), (1, .int x1), (2, .int x2), (3, .int x3)]) : W p l e rm_longs s m args below meth c H locs 0 0 (MQ below (QM D dA h A σ' none) args s 0 0 A) (F0 m 81 ls []) := by
  have hx := C.1.1
  have hb := C.1.2.1
  have hown := C.1.2.2.2.2.1
  have hT := C.1.2.2.2.2.2.1
  unfold M_longs_81 at hM
  refine lv_aload_n (pc := 81) hx hb dM_longs_81 rfl (lv_at hl 0 rfl) ?_
  refine lv_sipush (pc := 82) (v := -2048) hx hb dM_longs_82 (by decide) ?_
  refine lv_sipush (pc := 85) (v := 2047) hx hb dM_longs_85 (by decide) ?_
  refine lv_iconst (pc := 88) (v := 1) hx hb dM_longs_88 (by decide) ?_
  obtain ⟨r1, σ2, hr1, hM⟩ := cl_some hM
  refine x_callMi (pc := 89) C hW (kM_within l D dA h N (-2048 : Int32) (2047 : Int32) (1 : Int32) _ hr1) gM_within_594 ⟨rfl, by decide, by decide, by decide +kernel⟩ ⟨rfl, rfl⟩ ⟨by decide, by decide⟩ ⟨by decide, by decide⟩ (As := [.int (-2048 : Int32), .int (2047 : Int32), .int (1 : Int32)]) (n := 3) rfl hl.1 rfl (Nat.le_of_ble_eq_true rfl) dM_longs_89 (fun H locs hW => ?_)
  refine lv_istore (pc := 92) (lv' := [(4, .int r1), (0, .ref (h 0)), (1, .int x1), (2, .int x2), (3, .int x3)]) hx hb dM_longs_92 hl (by decide) rfl (fun ls hl => ?_)
  refine lv_aload_n (pc := 94) hx hb dM_longs_94 rfl (lv_at hl 1 rfl) ?_
  refine gM (pc := 95) C hW 24 (by decide) q_1681 rfl rfl dM_longs_95 ?_
  refine lv_if_ne (pc := 98) (tgt := 108) hx hb dM_longs_98 (by decide) (fun hc => ?_) (fun hc => ?_)
  · replace hM := it_f hc hM
    refine lv_iconst (pc := 108) (v := 0) hx hb dM_longs_108 (by decide) ?_
    exact bM_longs_109 N  C  _ _ _ _ _ _ hM _ _ hW _ (lv_sub hl [1, 2, 3, 4, 0] rfl)
  · replace hM := it_t hc hM
    refine lv_aload_n (pc := 101) hx hb dM_longs_101 rfl (lv_at hl 1 rfl) ?_
    obtain ⟨r3, σ4, hr3, hM⟩ := cl_some hM
    refine x_callMi (pc := 102) C hW (kM_bracketed l D dA h N _ hr3) gM_bracketed_597 ⟨rfl, by decide, by decide, by decide +kernel⟩ ⟨rfl, rfl⟩ ⟨by decide, by decide⟩ ⟨by decide, by decide⟩ (As := []) (n := 0) rfl hl.1 rfl (Nat.le_of_ble_eq_true rfl) dM_longs_102 (fun H locs hW => ?_)
    refine lv_goto (pc := 105) (tgt := 109) hx hb dM_longs_105 (by decide) ?_
    exact bM_longs_109 N  C  _ _ _ _ _ _ hM _ _ hW _ (lv_sub hl [1, 2, 3, 4, 0] rfl)
def M_longs_40 (N : Nat) (x1 : Int32) (x2 : Int32) (x3 : Int32) (σ : MS) : Option (Int32 × MS) :=
  (if x1 = (11 : Int32) then cl (M_word  (x2 ||| (x3 <<< ((7 : Int32) &&& 31))) σ) (fun r31 σ32 => some ((0 : Int32), σ32)) else cl (M_comma N σ) (fun r1 σ2 => (if r1 = 0 then some ((0 : Int32), σ2) else (if x1 = (4 : Int32) then M_longs_81 N  x1 x2 x3 σ2 else (if x1 = (5 : Int32) then M_longs_81 N  x1 x2 x3 σ2 else (if x1 = (30 : Int32) then M_longs_81 N  x1 x2 x3 σ2 else (if x1 = (6 : Int32) then cl (M_within N (0 : Int32) (1048575 : Int32) (1 : Int32) σ2) (fun r27 σ28 => cl (M_word  ((x2 ||| (x3 <<< ((7 : Int32) &&& 31))) ||| (r27 <<< ((12 : Int32) &&& 31))) σ28) (fun r29 σ30 => M_longs_384 N  σ30)) else (if x1 = (10 : Int32) then cl (M_bracketed N σ2) (fun r23 σ24 => cl (M_word  ((x2 ||| (x3 <<< ((7 : Int32) &&& 31))) ||| (r23 <<< ((15 : Int32) &&& 31))) σ24) (fun r25 σ26 => M_longs_384 N  σ26)) else cl (M_taken N σ2) (fun r3 σ4 => cl (M_comma N σ4) (fun r5 σ6 => (if r5 = 0 then some ((0 : Int32), σ6) else (if x1 = (1 : Int32) then cl (M_taken N σ6) (fun r19 σ20 => cl (M_word  (((x2 ||| (x3 <<< ((7 : Int32) &&& 31))) ||| (r3 <<< ((15 : Int32) &&& 31))) ||| (r19 <<< ((20 : Int32) &&& 31))) σ20) (fun r21 σ22 => M_longs_384 N  σ22)) else (if x1 = (2 : Int32) then cl (M_within N (-2048 : Int32) (2047 : Int32) (1 : Int32) σ6) (fun r15 σ16 => cl (M_word  (((x2 ||| (x3 <<< ((7 : Int32) &&& 31))) ||| (r3 <<< ((15 : Int32) &&& 31))) ||| (r15 <<< ((20 : Int32) &&& 31))) σ16) (fun r17 σ18 => M_longs_384 N  σ18)) else (if x1 = (3 : Int32) then cl (M_within N (0 : Int32) (31 : Int32) (1 : Int32) σ6) (fun r11 σ12 => cl (M_word  (((x2 ||| (x3 <<< ((7 : Int32) &&& 31))) ||| (r3 <<< ((15 : Int32) &&& 31))) ||| ((r11 &&& (31 : Int32)) <<< ((20 : Int32) &&& 31))) σ12) (fun r13 σ14 => M_longs_384 N  σ14)) else cl (M_bracketed N σ6) (fun r7 σ8 => cl (M_word  (((x2 ||| (x3 <<< ((7 : Int32) &&& 31))) ||| (r3 <<< ((20 : Int32) &&& 31))) ||| (r7 <<< ((15 : Int32) &&& 31))) σ8) (fun r9 σ10 => M_longs_384 N  σ10))))))))))))))))
set_option maxHeartbeats 4000000 in
set_option maxRecDepth 100000 in
theorem bM_longs_40 (N : Nat)  {r : Int32} {σ' : MS} (C : CxM p s m args meth c cM_longs 6 none D dA A) (x1 : Int32) (x2 : Int32) (x3 : Int32) (σ : MS) (hM : M_longs_40 N  x1 x2 x3 σ = some (r, σ')) (H : Heap) (locs : List Loc) (hW : WdM D dA h A s σ H locs) (ls : Array Slot) (hl : lv_has ls 6 [(0, .ref (h 0)), (1, .int x1), (2, .int x2), (3, .int x3)]) : W p l e rm_longs s m args below meth c H locs 0 0 (MQ below (QM D dA h A σ' none) args s 0 0 A) (F0 m 40 ls []) := by
  have hx := C.1.1
  have hb := C.1.2.1
  have hown := C.1.2.2.2.2.1
  have hT := C.1.2.2.2.2.2.1
  unfold M_longs_40 at hM
  refine lv_iload_n (pc := 40) hx hb dM_longs_40 rfl (lv_at hl 1 rfl) ?_
  refine lv_bipush (pc := 41) (v := 11) hx hb dM_longs_41 (by decide) ?_
  refine lv_icmp_ne (pc := 43) (tgt := 57) hx hb dM_longs_43 (by decide) (fun hc => ?_) (fun hc => ?_)
  · replace hM := it_f hc hM
    refine lv_aload_n (pc := 57) hx hb dM_longs_57 rfl (lv_at hl 0 rfl) ?_
    obtain ⟨r1, σ2, hr1, hM⟩ := cl_some hM
    refine x_callMi (pc := 58) C hW (kM_comma l D dA h N _ hr1) gM_comma_591 ⟨rfl, by decide, by decide, by decide +kernel⟩ ⟨rfl, rfl⟩ ⟨by decide, by decide⟩ ⟨by decide, by decide⟩ (As := []) (n := 0) rfl hl.1 rfl (Nat.le_of_ble_eq_true rfl) dM_longs_58 (fun H locs hW => ?_)
    refine lv_if_ne (pc := 61) (tgt := 65) hx hb dM_longs_61 (by decide) (fun hc => ?_) (fun hc => ?_)
    · replace hM := it_f hc hM
      refine lv_iload_n (pc := 65) hx hb dM_longs_65 rfl (lv_at hl 1 rfl) ?_
      refine lv_iconst (pc := 66) (v := 4) hx hb dM_longs_66 (by decide) ?_
      refine lv_icmp_eq (pc := 67) (tgt := 81) hx hb dM_longs_67 (by decide) (fun hc => ?_) (fun hc => ?_)
      · replace hM := it_t hc hM
        exact bM_longs_81 N  C  _ _ _ _ hM _ _ hW _ (lv_sub hl [0, 1, 2, 3] rfl)
      · replace hM := it_f hc hM
        refine lv_iload_n (pc := 70) hx hb dM_longs_70 rfl (lv_at hl 1 rfl) ?_
        refine lv_iconst (pc := 71) (v := 5) hx hb dM_longs_71 (by decide) ?_
        refine lv_icmp_eq (pc := 72) (tgt := 81) hx hb dM_longs_72 (by decide) (fun hc => ?_) (fun hc => ?_)
        · replace hM := it_t hc hM
          exact bM_longs_81 N  C  _ _ _ _ hM _ _ hW _ (lv_sub hl [0, 1, 2, 3] rfl)
        · replace hM := it_f hc hM
          refine lv_iload_n (pc := 75) hx hb dM_longs_75 rfl (lv_at hl 1 rfl) ?_
          refine lv_bipush (pc := 76) (v := 30) hx hb dM_longs_76 (by decide) ?_
          refine lv_icmp_ne (pc := 78) (tgt := 177) hx hb dM_longs_78 (by decide) (fun hc => ?_) (fun hc => ?_)
          · replace hM := it_f hc hM
            refine lv_iload_n (pc := 177) hx hb dM_longs_177 rfl (lv_at hl 1 rfl) ?_
            refine lv_bipush (pc := 178) (v := 6) hx hb dM_longs_178 (by decide) ?_
            refine lv_icmp_ne (pc := 180) (tgt := 209) hx hb dM_longs_180 (by decide) (fun hc => ?_) (fun hc => ?_)
            · replace hM := it_f hc hM
              refine lv_iload_n (pc := 209) hx hb dM_longs_209 rfl (lv_at hl 1 rfl) ?_
              refine lv_bipush (pc := 210) (v := 10) hx hb dM_longs_210 (by decide) ?_
              refine lv_icmp_ne (pc := 212) (tgt := 236) hx hb dM_longs_212 (by decide) (fun hc => ?_) (fun hc => ?_)
              · replace hM := it_f hc hM
                refine lv_aload_n (pc := 236) hx hb dM_longs_236 rfl (lv_at hl 0 rfl) ?_
                obtain ⟨r3, σ4, hr3, hM⟩ := cl_some hM
                refine x_callMi (pc := 237) C hW (kM_taken l D dA h N _ hr3) gM_taken_541 ⟨rfl, by decide, by decide, by decide +kernel⟩ ⟨rfl, rfl⟩ ⟨by decide, by decide⟩ ⟨by decide, by decide⟩ (As := []) (n := 0) rfl hl.1 rfl (Nat.le_of_ble_eq_true rfl) dM_longs_237 (fun H locs hW => ?_)
                refine lv_istore (pc := 240) (lv' := [(4, .int r3), (0, .ref (h 0)), (1, .int x1), (2, .int x2), (3, .int x3)]) hx hb dM_longs_240 hl (by decide) rfl (fun ls hl => ?_)
                refine lv_aload_n (pc := 242) hx hb dM_longs_242 rfl (lv_at hl 1 rfl) ?_
                obtain ⟨r5, σ6, hr5, hM⟩ := cl_some hM
                refine x_callMi (pc := 243) C hW (kM_comma l D dA h N _ hr5) gM_comma_591 ⟨rfl, by decide, by decide, by decide +kernel⟩ ⟨rfl, rfl⟩ ⟨by decide, by decide⟩ ⟨by decide, by decide⟩ (As := []) (n := 0) rfl hl.1 rfl (Nat.le_of_ble_eq_true rfl) dM_longs_243 (fun H locs hW => ?_)
                refine lv_if_ne (pc := 246) (tgt := 250) hx hb dM_longs_246 (by decide) (fun hc => ?_) (fun hc => ?_)
                · replace hM := it_f hc hM
                  refine lv_iload_n (pc := 250) hx hb dM_longs_250 rfl (lv_at hl 2 rfl) ?_
                  refine lv_iconst (pc := 251) (v := 1) hx hb dM_longs_251 (by decide) ?_
                  refine lv_icmp_ne (pc := 252) (tgt := 282) hx hb dM_longs_252 (by decide) (fun hc => ?_) (fun hc => ?_)
                  · replace hM := it_f hc hM
                    refine lv_iload_n (pc := 282) hx hb dM_longs_282 rfl (lv_at hl 2 rfl) ?_
                    refine lv_iconst (pc := 283) (v := 2) hx hb dM_longs_283 (by decide) ?_
                    refine lv_icmp_ne (pc := 284) (tgt := 321) hx hb dM_longs_284 (by decide) (fun hc => ?_) (fun hc => ?_)
                    · replace hM := it_f hc hM
                      refine lv_iload_n (pc := 321) hx hb dM_longs_321 rfl (lv_at hl 2 rfl) ?_
                      refine lv_iconst (pc := 322) (v := 3) hx hb dM_longs_322 (by decide) ?_
                      refine lv_icmp_ne (pc := 323) (tgt := 360) hx hb dM_longs_323 (by decide) (fun hc => ?_) (fun hc => ?_)
                      · replace hM := it_f hc hM
                        refine lv_aload_n (pc := 360) hx hb dM_longs_360 rfl (lv_at hl 1 rfl) ?_
                        refine lv_iload_n (pc := 361) hx hb dM_longs_361 rfl (lv_at hl 3 rfl) ?_
                        refine lv_iload_n (pc := 362) hx hb dM_longs_362 rfl (lv_at hl 4 rfl) ?_
                        refine lv_bipush (pc := 363) (v := 7) hx hb dM_longs_363 (by decide) ?_
                        refine lv_ishl (pc := 365) hx hb dM_longs_365 ?_
                        refine lv_ior (pc := 366) hx hb dM_longs_366 ?_
                        refine lv_iload (pc := 367) hx hb dM_longs_367 (lv_at hl 0 rfl) ?_
                        refine lv_bipush (pc := 369) (v := 20) hx hb dM_longs_369 (by decide) ?_
                        refine lv_ishl (pc := 371) hx hb dM_longs_371 ?_
                        refine lv_ior (pc := 372) hx hb dM_longs_372 ?_
                        refine lv_aload_n (pc := 373) hx hb dM_longs_373 rfl (lv_at hl 1 rfl) ?_
                        obtain ⟨r7, σ8, hr7, hM⟩ := cl_some hM
                        refine x_callMi (pc := 374) C hW (kM_bracketed l D dA h N _ hr7) gM_bracketed_597 ⟨rfl, by decide, by decide, by decide +kernel⟩ ⟨rfl, rfl⟩ ⟨by decide, by decide⟩ ⟨by decide, by decide⟩ (As := []) (n := 0) rfl hl.1 rfl (Nat.le_of_ble_eq_true rfl) dM_longs_374 (fun H locs hW => ?_)
                        refine lv_bipush (pc := 377) (v := 15) hx hb dM_longs_377 (by decide) ?_
                        refine lv_ishl (pc := 379) hx hb dM_longs_379 ?_
                        refine lv_ior (pc := 380) hx hb dM_longs_380 ?_
                        obtain ⟨r9, σ10, hr9, hM⟩ := cl_some hM
                        refine x_callMv (pc := 381) C hW (kM_word l D dA h  (((x2 ||| (x3 <<< ((7 : Int32) &&& 31))) ||| (r3 <<< ((20 : Int32) &&& 31))) ||| (r7 <<< ((15 : Int32) &&& 31))) _ hr9) gM_word_579 ⟨rfl, by decide, by decide, by decide +kernel⟩ ⟨rfl, rfl⟩ ⟨by decide, by decide⟩ ⟨by decide, by decide⟩ (As := [.int (((x2 ||| (x3 <<< ((7 : Int32) &&& 31))) ||| (r3 <<< ((20 : Int32) &&& 31))) ||| (r7 <<< ((15 : Int32) &&& 31)))]) (n := 1) rfl hl.1 rfl (Nat.le_of_ble_eq_true rfl) dM_longs_381 (fun H locs hW => ?_)
                        exact bM_longs_384 N  C   _ hM _ _ hW _ (lv_sub hl [] rfl)
                      · replace hM := it_t hc hM
                        refine lv_aload_n (pc := 326) hx hb dM_longs_326 rfl (lv_at hl 1 rfl) ?_
                        refine lv_iload_n (pc := 327) hx hb dM_longs_327 rfl (lv_at hl 3 rfl) ?_
                        refine lv_iload_n (pc := 328) hx hb dM_longs_328 rfl (lv_at hl 4 rfl) ?_
                        refine lv_bipush (pc := 329) (v := 7) hx hb dM_longs_329 (by decide) ?_
                        refine lv_ishl (pc := 331) hx hb dM_longs_331 ?_
                        refine lv_ior (pc := 332) hx hb dM_longs_332 ?_
                        refine lv_iload (pc := 333) hx hb dM_longs_333 (lv_at hl 0 rfl) ?_
                        refine lv_bipush (pc := 335) (v := 15) hx hb dM_longs_335 (by decide) ?_
                        refine lv_ishl (pc := 337) hx hb dM_longs_337 ?_
                        refine lv_ior (pc := 338) hx hb dM_longs_338 ?_
                        refine lv_aload_n (pc := 339) hx hb dM_longs_339 rfl (lv_at hl 1 rfl) ?_
                        refine lv_iconst (pc := 340) (v := 0) hx hb dM_longs_340 (by decide) ?_
                        refine lv_bipush (pc := 341) (v := 31) hx hb dM_longs_341 (by decide) ?_
                        refine lv_iconst (pc := 343) (v := 1) hx hb dM_longs_343 (by decide) ?_
                        obtain ⟨r11, σ12, hr11, hM⟩ := cl_some hM
                        refine x_callMi (pc := 344) C hW (kM_within l D dA h N (0 : Int32) (31 : Int32) (1 : Int32) _ hr11) gM_within_594 ⟨rfl, by decide, by decide, by decide +kernel⟩ ⟨rfl, rfl⟩ ⟨by decide, by decide⟩ ⟨by decide, by decide⟩ (As := [.int (0 : Int32), .int (31 : Int32), .int (1 : Int32)]) (n := 3) rfl hl.1 rfl (Nat.le_of_ble_eq_true rfl) dM_longs_344 (fun H locs hW => ?_)
                        refine lv_bipush (pc := 347) (v := 31) hx hb dM_longs_347 (by decide) ?_
                        refine lv_iand (pc := 349) hx hb dM_longs_349 ?_
                        refine lv_bipush (pc := 350) (v := 20) hx hb dM_longs_350 (by decide) ?_
                        refine lv_ishl (pc := 352) hx hb dM_longs_352 ?_
                        refine lv_ior (pc := 353) hx hb dM_longs_353 ?_
                        obtain ⟨r13, σ14, hr13, hM⟩ := cl_some hM
                        refine x_callMv (pc := 354) C hW (kM_word l D dA h  (((x2 ||| (x3 <<< ((7 : Int32) &&& 31))) ||| (r3 <<< ((15 : Int32) &&& 31))) ||| ((r11 &&& (31 : Int32)) <<< ((20 : Int32) &&& 31))) _ hr13) gM_word_579 ⟨rfl, by decide, by decide, by decide +kernel⟩ ⟨rfl, rfl⟩ ⟨by decide, by decide⟩ ⟨by decide, by decide⟩ (As := [.int (((x2 ||| (x3 <<< ((7 : Int32) &&& 31))) ||| (r3 <<< ((15 : Int32) &&& 31))) ||| ((r11 &&& (31 : Int32)) <<< ((20 : Int32) &&& 31)))]) (n := 1) rfl hl.1 rfl (Nat.le_of_ble_eq_true rfl) dM_longs_354 (fun H locs hW => ?_)
                        refine lv_goto (pc := 357) (tgt := 384) hx hb dM_longs_357 (by decide) ?_
                        exact bM_longs_384 N  C   _ hM _ _ hW _ (lv_sub hl [] rfl)
                    · replace hM := it_t hc hM
                      refine lv_aload_n (pc := 287) hx hb dM_longs_287 rfl (lv_at hl 1 rfl) ?_
                      refine lv_iload_n (pc := 288) hx hb dM_longs_288 rfl (lv_at hl 3 rfl) ?_
                      refine lv_iload_n (pc := 289) hx hb dM_longs_289 rfl (lv_at hl 4 rfl) ?_
                      refine lv_bipush (pc := 290) (v := 7) hx hb dM_longs_290 (by decide) ?_
                      refine lv_ishl (pc := 292) hx hb dM_longs_292 ?_
                      refine lv_ior (pc := 293) hx hb dM_longs_293 ?_
                      refine lv_iload (pc := 294) hx hb dM_longs_294 (lv_at hl 0 rfl) ?_
                      refine lv_bipush (pc := 296) (v := 15) hx hb dM_longs_296 (by decide) ?_
                      refine lv_ishl (pc := 298) hx hb dM_longs_298 ?_
                      refine lv_ior (pc := 299) hx hb dM_longs_299 ?_
                      refine lv_aload_n (pc := 300) hx hb dM_longs_300 rfl (lv_at hl 1 rfl) ?_
                      refine lv_sipush (pc := 301) (v := -2048) hx hb dM_longs_301 (by decide) ?_
                      refine lv_sipush (pc := 304) (v := 2047) hx hb dM_longs_304 (by decide) ?_
                      refine lv_iconst (pc := 307) (v := 1) hx hb dM_longs_307 (by decide) ?_
                      obtain ⟨r15, σ16, hr15, hM⟩ := cl_some hM
                      refine x_callMi (pc := 308) C hW (kM_within l D dA h N (-2048 : Int32) (2047 : Int32) (1 : Int32) _ hr15) gM_within_594 ⟨rfl, by decide, by decide, by decide +kernel⟩ ⟨rfl, rfl⟩ ⟨by decide, by decide⟩ ⟨by decide, by decide⟩ (As := [.int (-2048 : Int32), .int (2047 : Int32), .int (1 : Int32)]) (n := 3) rfl hl.1 rfl (Nat.le_of_ble_eq_true rfl) dM_longs_308 (fun H locs hW => ?_)
                      refine lv_bipush (pc := 311) (v := 20) hx hb dM_longs_311 (by decide) ?_
                      refine lv_ishl (pc := 313) hx hb dM_longs_313 ?_
                      refine lv_ior (pc := 314) hx hb dM_longs_314 ?_
                      obtain ⟨r17, σ18, hr17, hM⟩ := cl_some hM
                      refine x_callMv (pc := 315) C hW (kM_word l D dA h  (((x2 ||| (x3 <<< ((7 : Int32) &&& 31))) ||| (r3 <<< ((15 : Int32) &&& 31))) ||| (r15 <<< ((20 : Int32) &&& 31))) _ hr17) gM_word_579 ⟨rfl, by decide, by decide, by decide +kernel⟩ ⟨rfl, rfl⟩ ⟨by decide, by decide⟩ ⟨by decide, by decide⟩ (As := [.int (((x2 ||| (x3 <<< ((7 : Int32) &&& 31))) ||| (r3 <<< ((15 : Int32) &&& 31))) ||| (r15 <<< ((20 : Int32) &&& 31)))]) (n := 1) rfl hl.1 rfl (Nat.le_of_ble_eq_true rfl) dM_longs_315 (fun H locs hW => ?_)
                      refine lv_goto (pc := 318) (tgt := 384) hx hb dM_longs_318 (by decide) ?_
                      exact bM_longs_384 N  C   _ hM _ _ hW _ (lv_sub hl [] rfl)
                  · replace hM := it_t hc hM
                    refine lv_aload_n (pc := 255) hx hb dM_longs_255 rfl (lv_at hl 1 rfl) ?_
                    refine lv_iload_n (pc := 256) hx hb dM_longs_256 rfl (lv_at hl 3 rfl) ?_
                    refine lv_iload_n (pc := 257) hx hb dM_longs_257 rfl (lv_at hl 4 rfl) ?_
                    refine lv_bipush (pc := 258) (v := 7) hx hb dM_longs_258 (by decide) ?_
                    refine lv_ishl (pc := 260) hx hb dM_longs_260 ?_
                    refine lv_ior (pc := 261) hx hb dM_longs_261 ?_
                    refine lv_iload (pc := 262) hx hb dM_longs_262 (lv_at hl 0 rfl) ?_
                    refine lv_bipush (pc := 264) (v := 15) hx hb dM_longs_264 (by decide) ?_
                    refine lv_ishl (pc := 266) hx hb dM_longs_266 ?_
                    refine lv_ior (pc := 267) hx hb dM_longs_267 ?_
                    refine lv_aload_n (pc := 268) hx hb dM_longs_268 rfl (lv_at hl 1 rfl) ?_
                    obtain ⟨r19, σ20, hr19, hM⟩ := cl_some hM
                    refine x_callMi (pc := 269) C hW (kM_taken l D dA h N _ hr19) gM_taken_541 ⟨rfl, by decide, by decide, by decide +kernel⟩ ⟨rfl, rfl⟩ ⟨by decide, by decide⟩ ⟨by decide, by decide⟩ (As := []) (n := 0) rfl hl.1 rfl (Nat.le_of_ble_eq_true rfl) dM_longs_269 (fun H locs hW => ?_)
                    refine lv_bipush (pc := 272) (v := 20) hx hb dM_longs_272 (by decide) ?_
                    refine lv_ishl (pc := 274) hx hb dM_longs_274 ?_
                    refine lv_ior (pc := 275) hx hb dM_longs_275 ?_
                    obtain ⟨r21, σ22, hr21, hM⟩ := cl_some hM
                    refine x_callMv (pc := 276) C hW (kM_word l D dA h  (((x2 ||| (x3 <<< ((7 : Int32) &&& 31))) ||| (r3 <<< ((15 : Int32) &&& 31))) ||| (r19 <<< ((20 : Int32) &&& 31))) _ hr21) gM_word_579 ⟨rfl, by decide, by decide, by decide +kernel⟩ ⟨rfl, rfl⟩ ⟨by decide, by decide⟩ ⟨by decide, by decide⟩ (As := [.int (((x2 ||| (x3 <<< ((7 : Int32) &&& 31))) ||| (r3 <<< ((15 : Int32) &&& 31))) ||| (r19 <<< ((20 : Int32) &&& 31)))]) (n := 1) rfl hl.1 rfl (Nat.le_of_ble_eq_true rfl) dM_longs_276 (fun H locs hW => ?_)
                    refine lv_goto (pc := 279) (tgt := 384) hx hb dM_longs_279 (by decide) ?_
                    exact bM_longs_384 N  C   _ hM _ _ hW _ (lv_sub hl [] rfl)
                · replace hM := it_t hc hM
                  obtain ⟨rfl, rfl⟩ := sm_p hM
                  exact x_retMv (pc := 249) C rfl hW dM_longs_249
              · replace hM := it_t hc hM
                refine lv_aload_n (pc := 215) hx hb dM_longs_215 rfl (lv_at hl 0 rfl) ?_
                refine lv_iload_n (pc := 216) hx hb dM_longs_216 rfl (lv_at hl 2 rfl) ?_
                refine lv_iload_n (pc := 217) hx hb dM_longs_217 rfl (lv_at hl 3 rfl) ?_
                refine lv_bipush (pc := 218) (v := 7) hx hb dM_longs_218 (by decide) ?_
                refine lv_ishl (pc := 220) hx hb dM_longs_220 ?_
                refine lv_ior (pc := 221) hx hb dM_longs_221 ?_
                refine lv_aload_n (pc := 222) hx hb dM_longs_222 rfl (lv_at hl 0 rfl) ?_
                obtain ⟨r23, σ24, hr23, hM⟩ := cl_some hM
                refine x_callMi (pc := 223) C hW (kM_bracketed l D dA h N _ hr23) gM_bracketed_597 ⟨rfl, by decide, by decide, by decide +kernel⟩ ⟨rfl, rfl⟩ ⟨by decide, by decide⟩ ⟨by decide, by decide⟩ (As := []) (n := 0) rfl hl.1 rfl (Nat.le_of_ble_eq_true rfl) dM_longs_223 (fun H locs hW => ?_)
                refine lv_bipush (pc := 226) (v := 15) hx hb dM_longs_226 (by decide) ?_
                refine lv_ishl (pc := 228) hx hb dM_longs_228 ?_
                refine lv_ior (pc := 229) hx hb dM_longs_229 ?_
                obtain ⟨r25, σ26, hr25, hM⟩ := cl_some hM
                refine x_callMv (pc := 230) C hW (kM_word l D dA h  ((x2 ||| (x3 <<< ((7 : Int32) &&& 31))) ||| (r23 <<< ((15 : Int32) &&& 31))) _ hr25) gM_word_579 ⟨rfl, by decide, by decide, by decide +kernel⟩ ⟨rfl, rfl⟩ ⟨by decide, by decide⟩ ⟨by decide, by decide⟩ (As := [.int ((x2 ||| (x3 <<< ((7 : Int32) &&& 31))) ||| (r23 <<< ((15 : Int32) &&& 31)))]) (n := 1) rfl hl.1 rfl (Nat.le_of_ble_eq_true rfl) dM_longs_230 (fun H locs hW => ?_)
                refine lv_goto (pc := 233) (tgt := 384) hx hb dM_longs_233 (by decide) ?_
                exact bM_longs_384 N  C   _ hM _ _ hW _ (lv_sub hl [] rfl)
            · replace hM := it_t hc hM
              refine lv_aload_n (pc := 183) hx hb dM_longs_183 rfl (lv_at hl 0 rfl) ?_
              refine lv_iload_n (pc := 184) hx hb dM_longs_184 rfl (lv_at hl 2 rfl) ?_
              refine lv_iload_n (pc := 185) hx hb dM_longs_185 rfl (lv_at hl 3 rfl) ?_
              refine lv_bipush (pc := 186) (v := 7) hx hb dM_longs_186 (by decide) ?_
              refine lv_ishl (pc := 188) hx hb dM_longs_188 ?_
              refine lv_ior (pc := 189) hx hb dM_longs_189 ?_
              refine lv_aload_n (pc := 190) hx hb dM_longs_190 rfl (lv_at hl 0 rfl) ?_
              refine lv_iconst (pc := 191) (v := 0) hx hb dM_longs_191 (by decide) ?_
              refine lv_ldcw (pc := 192) (v := 1048575) hx hb hown (hT _ q_2058) dM_longs_192 ?_
              refine lv_iconst (pc := 195) (v := 1) hx hb dM_longs_195 (by decide) ?_
              obtain ⟨r27, σ28, hr27, hM⟩ := cl_some hM
              refine x_callMi (pc := 196) C hW (kM_within l D dA h N (0 : Int32) (1048575 : Int32) (1 : Int32) _ hr27) gM_within_594 ⟨rfl, by decide, by decide, by decide +kernel⟩ ⟨rfl, rfl⟩ ⟨by decide, by decide⟩ ⟨by decide, by decide⟩ (As := [.int (0 : Int32), .int (1048575 : Int32), .int (1 : Int32)]) (n := 3) rfl hl.1 rfl (Nat.le_of_ble_eq_true rfl) dM_longs_196 (fun H locs hW => ?_)
              refine lv_bipush (pc := 199) (v := 12) hx hb dM_longs_199 (by decide) ?_
              refine lv_ishl (pc := 201) hx hb dM_longs_201 ?_
              refine lv_ior (pc := 202) hx hb dM_longs_202 ?_
              obtain ⟨r29, σ30, hr29, hM⟩ := cl_some hM
              refine x_callMv (pc := 203) C hW (kM_word l D dA h  ((x2 ||| (x3 <<< ((7 : Int32) &&& 31))) ||| (r27 <<< ((12 : Int32) &&& 31))) _ hr29) gM_word_579 ⟨rfl, by decide, by decide, by decide +kernel⟩ ⟨rfl, rfl⟩ ⟨by decide, by decide⟩ ⟨by decide, by decide⟩ (As := [.int ((x2 ||| (x3 <<< ((7 : Int32) &&& 31))) ||| (r27 <<< ((12 : Int32) &&& 31)))]) (n := 1) rfl hl.1 rfl (Nat.le_of_ble_eq_true rfl) dM_longs_203 (fun H locs hW => ?_)
              refine lv_goto (pc := 206) (tgt := 384) hx hb dM_longs_206 (by decide) ?_
              exact bM_longs_384 N  C   _ hM _ _ hW _ (lv_sub hl [] rfl)
          · replace hM := it_t hc hM
            exact bM_longs_81 N  C  _ _ _ _ hM _ _ hW _ (lv_sub hl [0, 1, 2, 3] rfl)
    · replace hM := it_t hc hM
      obtain ⟨rfl, rfl⟩ := sm_p hM
      exact x_retMv (pc := 64) C rfl hW dM_longs_64
  · replace hM := it_t hc hM
    refine lv_aload_n (pc := 46) hx hb dM_longs_46 rfl (lv_at hl 0 rfl) ?_
    refine lv_iload_n (pc := 47) hx hb dM_longs_47 rfl (lv_at hl 2 rfl) ?_
    refine lv_iload_n (pc := 48) hx hb dM_longs_48 rfl (lv_at hl 3 rfl) ?_
    refine lv_bipush (pc := 49) (v := 7) hx hb dM_longs_49 (by decide) ?_
    refine lv_ishl (pc := 51) hx hb dM_longs_51 ?_
    refine lv_ior (pc := 52) hx hb dM_longs_52 ?_
    obtain ⟨r31, σ32, hr31, hM⟩ := cl_some hM
    refine x_callMv (pc := 53) C hW (kM_word l D dA h  (x2 ||| (x3 <<< ((7 : Int32) &&& 31))) _ hr31) gM_word_579 ⟨rfl, by decide, by decide, by decide +kernel⟩ ⟨rfl, rfl⟩ ⟨by decide, by decide⟩ ⟨by decide, by decide⟩ (As := [.int (x2 ||| (x3 <<< ((7 : Int32) &&& 31)))]) (n := 1) rfl hl.1 rfl (Nat.le_of_ble_eq_true rfl) dM_longs_53 (fun H locs hW => ?_)
    obtain ⟨rfl, rfl⟩ := sm_p hM
    exact x_retMv (pc := 56) C rfl hW dM_longs_56
def M_longs (N : Nat) (x1 : Int32) (x2 : Int32) (σ : MS) : Option (Int32 × MS) :=
  cl (M_taken N σ) (fun r1 σ2 => (if x1 = (30 : Int32) then (if (σ2.1 14) = 0 then cl (M_isEnd N σ2) (fun r3 σ4 => (if r3 = 0 then M_longs_40 N  x1 x2 r1 σ4 else cl (M_word  ((x2 ||| (128 : Int32)) ||| (r1 <<< ((15 : Int32) &&& 31))) σ4) (fun r5 σ6 => some ((0 : Int32), σ6)))) else M_longs_40 N  x1 x2 r1 σ2) else M_longs_40 N  x1 x2 r1 σ2))
set_option maxHeartbeats 4000000 in
set_option maxRecDepth 100000 in
theorem bM_longs_0 (N : Nat)  {r : Int32} {σ' : MS} (C : CxM p s m args meth c cM_longs 6 none D dA A) (x1 : Int32) (x2 : Int32) (σ : MS) (hM : M_longs N  x1 x2 σ = some (r, σ')) (H : Heap) (locs : List Loc) (hW : WdM D dA h A s σ H locs) (ls : Array Slot) (hl : lv_has ls 6 [(0, .ref (h 0)), (1, .int x1), (2, .int x2)]) : W p l e rm_longs s m args below meth c H locs 0 0 (MQ below (QM D dA h A σ' none) args s 0 0 A) (F0 m 0 ls []) := by
  have hx := C.1.1
  have hb := C.1.2.1
  have hown := C.1.2.2.2.2.1
  have hT := C.1.2.2.2.2.2.1
  unfold M_longs at hM
  refine lv_aload_n (pc := 0) hx hb dM_longs_0 rfl (lv_at hl 0 rfl) ?_
  obtain ⟨r1, σ2, hr1, hM⟩ := cl_some hM
  refine x_callMi (pc := 1) C hW (kM_taken l D dA h N _ hr1) gM_taken_541 ⟨rfl, by decide, by decide, by decide +kernel⟩ ⟨rfl, rfl⟩ ⟨by decide, by decide⟩ ⟨by decide, by decide⟩ (As := []) (n := 0) rfl hl.1 rfl (Nat.le_of_ble_eq_true rfl) dM_longs_1 (fun H locs hW => ?_)
  refine lv_istore_n (pc := 4) (lv' := [(3, .int r1), (0, .ref (h 0)), (1, .int x1), (2, .int x2)]) hx hb dM_longs_4 rfl hl (by decide) rfl (fun ls hl => ?_)
  refine lv_iload_n (pc := 5) hx hb dM_longs_5 rfl (lv_at hl 2 rfl) ?_
  refine lv_bipush (pc := 6) (v := 30) hx hb dM_longs_6 (by decide) ?_
  refine lv_icmp_ne (pc := 8) (tgt := 40) hx hb dM_longs_8 (by decide) (fun hc => ?_) (fun hc => ?_)
  · replace hM := it_f hc hM
    exact bM_longs_40 N  C  _ _ _ _ hM _ _ hW _ (lv_sub hl [1, 2, 3, 0] rfl)
  · replace hM := it_t hc hM
    refine lv_aload_n (pc := 11) hx hb dM_longs_11 rfl (lv_at hl 1 rfl) ?_
    refine gM (pc := 12) C hW 24 (by decide) q_1681 rfl rfl dM_longs_12 ?_
    refine lv_if_ne (pc := 15) (tgt := 40) hx hb dM_longs_15 (by decide) (fun hc => ?_) (fun hc => ?_)
    · replace hM := it_f hc hM
      exact bM_longs_40 N  C  _ _ _ _ hM _ _ hW _ (lv_sub hl [1, 2, 3, 0] rfl)
    · replace hM := it_t hc hM
      refine lv_aload_n (pc := 18) hx hb dM_longs_18 rfl (lv_at hl 1 rfl) ?_
      obtain ⟨r3, σ4, hr3, hM⟩ := cl_some hM
      refine x_callMi (pc := 19) C hW (kM_isEnd l D dA h N _ hr3) gM_isEnd_588 ⟨rfl, by decide, by decide, by decide +kernel⟩ ⟨rfl, rfl⟩ ⟨by decide, by decide⟩ ⟨by decide, by decide⟩ (As := []) (n := 0) rfl hl.1 rfl (Nat.le_of_ble_eq_true rfl) dM_longs_19 (fun H locs hW => ?_)
      refine lv_if_eq (pc := 22) (tgt := 40) hx hb dM_longs_22 (by decide) (fun hc => ?_) (fun hc => ?_)
      · replace hM := it_t hc hM
        exact bM_longs_40 N  C  _ _ _ _ hM _ _ hW _ (lv_sub hl [1, 2, 3, 0] rfl)
      · replace hM := it_f hc hM
        refine lv_aload_n (pc := 25) hx hb dM_longs_25 rfl (lv_at hl 1 rfl) ?_
        refine lv_iload_n (pc := 26) hx hb dM_longs_26 rfl (lv_at hl 3 rfl) ?_
        refine lv_sipush (pc := 27) (v := 128) hx hb dM_longs_27 (by decide) ?_
        refine lv_ior (pc := 30) hx hb dM_longs_30 ?_
        refine lv_iload_n (pc := 31) hx hb dM_longs_31 rfl (lv_at hl 0 rfl) ?_
        refine lv_bipush (pc := 32) (v := 15) hx hb dM_longs_32 (by decide) ?_
        refine lv_ishl (pc := 34) hx hb dM_longs_34 ?_
        refine lv_ior (pc := 35) hx hb dM_longs_35 ?_
        obtain ⟨r5, σ6, hr5, hM⟩ := cl_some hM
        refine x_callMv (pc := 36) C hW (kM_word l D dA h  ((x2 ||| (128 : Int32)) ||| (r1 <<< ((15 : Int32) &&& 31))) _ hr5) gM_word_579 ⟨rfl, by decide, by decide, by decide +kernel⟩ ⟨rfl, rfl⟩ ⟨by decide, by decide⟩ ⟨by decide, by decide⟩ (As := [.int ((x2 ||| (128 : Int32)) ||| (r1 <<< ((15 : Int32) &&& 31)))]) (n := 1) rfl hl.1 rfl (Nat.le_of_ble_eq_true rfl) dM_longs_36 (fun H locs hW => ?_)
        obtain ⟨rfl, rfl⟩ := sm_p hM
        exact x_retMv (pc := 39) C rfl hW dM_longs_39
theorem kM_longs (l : Launch) (D : va_G) (dA : Nat → ClassId) (h : Nat → Nat) (N : Nat) (x1 : Int32) (x2 : Int32) (σ : MS) {r : Int32} {σ' : MS} (hM : M_longs N x1 x2 σ = some (r, σ')) : KM l D dA yM_longs cM_longs 6 none rm_longs h σ [.int x1, .int x2] none σ' := x_enterM rfl (Nat.le_of_ble_eq_true rfl) (fun p e s m args below meth c A C hW ls hl => bM_longs_0 N C x1 x2 σ hM s.heap [] hW ls hl)
end
