theorem q_1665 : (Jvm.Cond.fieldLink "LineAssemblerModel" (712 : Nat) "LineAssemblerModel" "there" "Z") ∈ lw_gd := u_6 (List.mem_of_getElem? (i := 225) (by decide +kernel)) (by decide +kernel)
theorem q_1666 : (Jvm.Cond.fieldLink "LineAssemblerModel" (682 : Nat) "LineAssemblerModel" "statements" "I") ∈ lw_gd := u_6 (List.mem_of_getElem? (i := 226) (by decide +kernel)) (by decide +kernel)
theorem q_1674 : (Jvm.Cond.fieldLink "LineAssemblerModel" (691 : Nat) "LineAssemblerModel" "dataSize" "I") ∈ lw_gd := u_6 (List.mem_of_getElem? (i := 234) (by decide +kernel)) (by decide +kernel)
theorem q_1802 : (Jvm.Cond.methodLink "LineAssemblerModel" (685 : Nat) ({ cls := "LineAssemblerModel", name := "labelled", desc := "()Z" } : Jvm.MethodName)) ∈ lw_gd := u_7 (List.mem_of_getElem? (i := 122) (by decide +kernel)) (by decide +kernel)
theorem q_1804 : (Jvm.Cond.instanceMethod ({ cls := "LineAssemblerModel", name := "labelled", desc := "()Z" } : Jvm.MethodName)) ∈ lw_gd := u_7 (List.mem_of_getElem? (i := 124) (by decide +kernel)) (by decide +kernel)
theorem q_1805 : (Jvm.Cond.code ({ cls := "LineAssemblerModel", name := "labelled", desc := "()Z" } : Jvm.MethodName) prog_14_method_75_code (5 : Nat) (Option.some Jvm.ClassFile.FieldType.boolean)) ∈ lw_gd := u_7 (List.mem_of_getElem? (i := 125) (by decide +kernel)) (by decide +kernel)
theorem q_1886 : (Jvm.Cond.methodLink "LineAssemblerModel" (688 : Nat) ({ cls := "LineAssemblerModel", name := "statement", desc := "(II)V" } : Jvm.MethodName)) ∈ lw_gd := u_7 (List.mem_of_getElem? (i := 206) (by decide +kernel)) (by decide +kernel)
theorem q_1888 : (Jvm.Cond.instanceMethod ({ cls := "LineAssemblerModel", name := "statement", desc := "(II)V" } : Jvm.MethodName)) ∈ lw_gd := u_7 (List.mem_of_getElem? (i := 208) (by decide +kernel)) (by decide +kernel)
theorem q_1889 : (Jvm.Cond.code ({ cls := "LineAssemblerModel", name := "statement", desc := "(II)V" } : Jvm.MethodName) prog_14_method_74_code (8 : Nat) (Option.none : Option Jvm.ClassFile.FieldType)) ∈ lw_gd := u_7 (List.mem_of_getElem? (i := 209) (by decide +kernel)) (by decide +kernel)
theorem q_2106 : (Jvm.Cond.methodLink "LineAssemblerModel" (697 : Nat) ({ cls := "LineAssemblerModel", name := "sizeAt", desc := "(II)I" } : Jvm.MethodName)) ∈ lw_gd := u_8 (List.mem_of_getElem? (i := 186) (by decide +kernel)) (by decide +kernel)
theorem q_2108 : (Jvm.Cond.instanceMethod ({ cls := "LineAssemblerModel", name := "sizeAt", desc := "(II)I" } : Jvm.MethodName)) ∈ lw_gd := u_8 (List.mem_of_getElem? (i := 188) (by decide +kernel)) (by decide +kernel)
theorem q_2109 : (Jvm.Cond.code ({ cls := "LineAssemblerModel", name := "sizeAt", desc := "(II)I" } : Jvm.MethodName) prog_14_method_77_code (3 : Nat) (Option.some Jvm.ClassFile.FieldType.int)) ∈ lw_gd := u_8 (List.mem_of_getElem? (i := 189) (by decide +kernel)) (by decide +kernel)
theorem q_2114 : (Jvm.Cond.methodLink "LineAssemblerModel" (700 : Nat) ({ cls := "LineAssemblerModel", name := "addressOf", desc := "(I)I" } : Jvm.MethodName)) ∈ lw_gd := u_8 (List.mem_of_getElem? (i := 194) (by decide +kernel)) (by decide +kernel)
theorem q_2116 : (Jvm.Cond.instanceMethod ({ cls := "LineAssemblerModel", name := "addressOf", desc := "(I)I" } : Jvm.MethodName)) ∈ lw_gd := u_8 (List.mem_of_getElem? (i := 196) (by decide +kernel)) (by decide +kernel)
theorem q_2117 : (Jvm.Cond.code ({ cls := "LineAssemblerModel", name := "addressOf", desc := "(I)I" } : Jvm.MethodName) prog_14_method_80_code (2 : Nat) (Option.some Jvm.ClassFile.FieldType.int)) ∈ lw_gd := u_8 (List.mem_of_getElem? (i := 197) (by decide +kernel)) (by decide +kernel)
theorem qs_52 : Cond.selects "LineAssemblerModel" (⟨"LineAssemblerModel", "labelled", "()Z"⟩ : MethodName) ⟨"LineAssemblerModel", "labelled", "()Z"⟩ ∈ lw_gd := lw_gds (List.mem_of_getElem? (i := 52) (by decide +kernel)) (by decide +kernel)
theorem qs_68 : Cond.selects "LineAssemblerModel" (⟨"LineAssemblerModel", "statement", "(II)V"⟩ : MethodName) ⟨"LineAssemblerModel", "statement", "(II)V"⟩ ∈ lw_gd := lw_gds (List.mem_of_getElem? (i := 68) (by decide +kernel)) (by decide +kernel)
theorem qs_115 : Cond.selects "LineAssemblerModel" (⟨"LineAssemblerModel", "sizeAt", "(II)I"⟩ : MethodName) ⟨"LineAssemblerModel", "sizeAt", "(II)I"⟩ ∈ lw_gd := lw_gds (List.mem_of_getElem? (i := 115) (by decide +kernel)) (by decide +kernel)
theorem qs_117 : Cond.selects "LineAssemblerModel" (⟨"LineAssemblerModel", "addressOf", "(I)I"⟩ : MethodName) ⟨"LineAssemblerModel", "addressOf", "(I)I"⟩ ∈ lw_gd := lw_gds (List.mem_of_getElem? (i := 117) (by decide +kernel)) (by decide +kernel)
abbrev cM_again : ByteArray := prog_14_method_81_code
def yM_again : MethodName := ⟨RM, "again", "(II)V"⟩
abbrev rm_again : Room := { frames := 12, cells := 0, slots := 0, locals := 287 }
theorem dM_again_0 : decode cM_again 0 = .ok (.aload_n 0, 1) := by decide +kernel
theorem dM_again_1 : decode cM_again 1 = .ok (.iload_n 1, 1) := by decide +kernel
theorem dM_again_2 : decode cM_again 2 = .ok (.putfield 463, 3) := by decide +kernel
theorem dM_again_5 : decode cM_again 5 = .ok (.aload_n 0, 1) := by decide +kernel
theorem dM_again_6 : decode cM_again 6 = .ok (.aload_n 0, 1) := by decide +kernel
theorem dM_again_7 : decode cM_again 7 = .ok (.iload_n 1, 1) := by decide +kernel
theorem dM_again_8 : decode cM_again 8 = .ok (.invokevirtual 700, 3) := by decide +kernel
theorem dM_again_11 : decode cM_again 11 = .ok (.putfield 495, 3) := by decide +kernel
theorem dM_again_14 : decode cM_again 14 = .ok (.aload_n 0, 1) := by decide +kernel
theorem dM_again_15 : decode cM_again 15 = .ok (.aload_n 0, 1) := by decide +kernel
theorem dM_again_16 : decode cM_again 16 = .ok (.iload_n 1, 1) := by decide +kernel
theorem dM_again_17 : decode cM_again 17 = .ok (.invokevirtual 694, 3) := by decide +kernel
theorem dM_again_20 : decode cM_again 20 = .ok (.putfield 643, 3) := by decide +kernel
theorem dM_again_23 : decode cM_again 23 = .ok (.aload_n 0, 1) := by decide +kernel
theorem dM_again_24 : decode cM_again 24 = .ok (.aload_n 0, 1) := by decide +kernel
theorem dM_again_25 : decode cM_again 25 = .ok (.getfield 330, 3) := by decide +kernel
theorem dM_again_28 : decode cM_again 28 = .ok (.iload_n 1, 1) := by decide +kernel
theorem dM_again_29 : decode cM_again 29 = .ok (.iaload, 1) := by decide +kernel
theorem dM_again_30 : decode cM_again 30 = .ok (.sipush 8191, 3) := by decide +kernel
theorem dM_again_33 : decode cM_again 33 = .ok (.iand, 1) := by decide +kernel
theorem dM_again_34 : decode cM_again 34 = .ok (.iload_n 2, 1) := by decide +kernel
theorem dM_again_35 : decode cM_again 35 = .ok (.invokevirtual 688, 3) := by decide +kernel
theorem dM_again_38 : decode cM_again 38 = .ok (.return_, 1) := by decide +kernel
abbrev cM_all : ByteArray := prog_14_method_84_code
def yM_all : MethodName := ⟨RM, "all", "()I"⟩
abbrev rm_all : Room := { frames := 1, cells := 0, slots := 0, locals := 20 }
theorem dM_all_0 : decode cM_all 0 = .ok (.aload_n 0, 1) := by decide +kernel
theorem dM_all_1 : decode cM_all 1 = .ok (.getfield 712, 3) := by decide +kernel
theorem dM_all_4 : decode cM_all 4 = .ok (.ifCond .ne (7), 3) := by decide +kernel
theorem dM_all_7 : decode cM_all 7 = .ok (.iconst 0, 1) := by decide +kernel
theorem dM_all_8 : decode cM_all 8 = .ok (.goto (26), 3) := by decide +kernel
theorem dM_all_11 : decode cM_all 11 = .ok (.aload_n 0, 1) := by decide +kernel
theorem dM_all_12 : decode cM_all 12 = .ok (.getfield 691, 3) := by decide +kernel
theorem dM_all_15 : decode cM_all 15 = .ok (.ifCond .le (15), 3) := by decide +kernel
theorem dM_all_18 : decode cM_all 18 = .ok (.aload_n 0, 1) := by decide +kernel
theorem dM_all_19 : decode cM_all 19 = .ok (.invokevirtual 459, 3) := by decide +kernel
theorem dM_all_22 : decode cM_all 22 = .ok (.aload_n 0, 1) := by decide +kernel
theorem dM_all_23 : decode cM_all 23 = .ok (.getfield 691, 3) := by decide +kernel
theorem dM_all_26 : decode cM_all 26 = .ok (.iadd, 1) := by decide +kernel
theorem dM_all_27 : decode cM_all 27 = .ok (.goto (7), 3) := by decide +kernel
theorem dM_all_30 : decode cM_all 30 = .ok (.aload_n 0, 1) := by decide +kernel
theorem dM_all_31 : decode cM_all 31 = .ok (.getfield 456, 3) := by decide +kernel
theorem dM_all_34 : decode cM_all 34 = .ok (.ireturn, 1) := by decide +kernel
abbrev cM_lineOf : ByteArray := prog_14_method_83_code
def yM_lineOf : MethodName := ⟨RM, "lineOf", "(I)I"⟩
abbrev rm_lineOf : Room := { frames := 0, cells := 0, slots := 0, locals := 0 }
theorem dM_lineOf_0 : decode cM_lineOf 0 = .ok (.iconst 1, 1) := by decide +kernel
theorem dM_lineOf_1 : decode cM_lineOf 1 = .ok (.istore_n 2, 1) := by decide +kernel
theorem dM_lineOf_2 : decode cM_lineOf 2 = .ok (.iconst 0, 1) := by decide +kernel
theorem dM_lineOf_3 : decode cM_lineOf 3 = .ok (.istore_n 3, 1) := by decide +kernel
theorem dM_lineOf_4 : decode cM_lineOf 4 = .ok (.iload_n 3, 1) := by decide +kernel
theorem dM_lineOf_5 : decode cM_lineOf 5 = .ok (.iload_n 1, 1) := by decide +kernel
theorem dM_lineOf_6 : decode cM_lineOf 6 = .ok (.if_icmp .ge (28), 3) := by decide +kernel
theorem dM_lineOf_9 : decode cM_lineOf 9 = .ok (.aload_n 0, 1) := by decide +kernel
theorem dM_lineOf_10 : decode cM_lineOf 10 = .ok (.getfield 327, 3) := by decide +kernel
theorem dM_lineOf_13 : decode cM_lineOf 13 = .ok (.iload_n 3, 1) := by decide +kernel
theorem dM_lineOf_14 : decode cM_lineOf 14 = .ok (.caload, 1) := by decide +kernel
theorem dM_lineOf_15 : decode cM_lineOf 15 = .ok (.bipush 10, 2) := by decide +kernel
theorem dM_lineOf_17 : decode cM_lineOf 17 = .ok (.if_icmp .ne (9), 3) := by decide +kernel
theorem dM_lineOf_20 : decode cM_lineOf 20 = .ok (.iload_n 2, 1) := by decide +kernel
theorem dM_lineOf_21 : decode cM_lineOf 21 = .ok (.iconst 1, 1) := by decide +kernel
theorem dM_lineOf_22 : decode cM_lineOf 22 = .ok (.iadd, 1) := by decide +kernel
theorem dM_lineOf_23 : decode cM_lineOf 23 = .ok (.goto (4), 3) := by decide +kernel
theorem dM_lineOf_26 : decode cM_lineOf 26 = .ok (.iload_n 2, 1) := by decide +kernel
theorem dM_lineOf_27 : decode cM_lineOf 27 = .ok (.istore_n 2, 1) := by decide +kernel
theorem dM_lineOf_28 : decode cM_lineOf 28 = .ok (.iinc 3 (1), 3) := by decide +kernel
theorem dM_lineOf_31 : decode cM_lineOf 31 = .ok (.goto (-27), 3) := by decide +kernel
theorem dM_lineOf_34 : decode cM_lineOf 34 = .ok (.iload_n 2, 1) := by decide +kernel
theorem dM_lineOf_35 : decode cM_lineOf 35 = .ok (.ireturn, 1) := by decide +kernel
abbrev cM_labelled : ByteArray := prog_14_method_75_code
def yM_labelled : MethodName := ⟨RM, "labelled", "()Z"⟩
abbrev rm_labelled : Room := { frames := 5, cells := 0, slots := 0, locals := 114 }
theorem dM_labelled_0 : decode cM_labelled 0 = .ok (.aload_n 0, 1) := by decide +kernel
theorem dM_labelled_1 : decode cM_labelled 1 = .ok (.getfield 420, 3) := by decide +kernel
theorem dM_labelled_4 : decode cM_labelled 4 = .ok (.ifCond .ne (165), 3) := by decide +kernel
theorem dM_labelled_7 : decode cM_labelled 7 = .ok (.aload_n 0, 1) := by decide +kernel
theorem dM_labelled_8 : decode cM_labelled 8 = .ok (.invokevirtual 426, 3) := by decide +kernel
theorem dM_labelled_11 : decode cM_labelled 11 = .ok (.aload_n 0, 1) := by decide +kernel
theorem dM_labelled_12 : decode cM_labelled 12 = .ok (.getfield 378, 3) := by decide +kernel
theorem dM_labelled_15 : decode cM_labelled 15 = .ok (.istore_n 1, 1) := by decide +kernel
theorem dM_labelled_16 : decode cM_labelled 16 = .ok (.aload_n 0, 1) := by decide +kernel
theorem dM_labelled_17 : decode cM_labelled 17 = .ok (.getfield 381, 3) := by decide +kernel
theorem dM_labelled_20 : decode cM_labelled 20 = .ok (.istore_n 2, 1) := by decide +kernel
theorem dM_labelled_21 : decode cM_labelled 21 = .ok (.aload_n 0, 1) := by decide +kernel
theorem dM_labelled_22 : decode cM_labelled 22 = .ok (.getfield 375, 3) := by decide +kernel
theorem dM_labelled_25 : decode cM_labelled 25 = .ok (.istore_n 3, 1) := by decide +kernel
theorem dM_labelled_26 : decode cM_labelled 26 = .ok (.iload_n 3, 1) := by decide +kernel
theorem dM_labelled_27 : decode cM_labelled 27 = .ok (.iconst 2, 1) := by decide +kernel
theorem dM_labelled_28 : decode cM_labelled 28 = .ok (.if_icmp .ne (14), 3) := by decide +kernel
theorem dM_labelled_31 : decode cM_labelled 31 = .ok (.iload_n 2, 1) := by decide +kernel
theorem dM_labelled_32 : decode cM_labelled 32 = .ok (.iload_n 1, 1) := by decide +kernel
theorem dM_labelled_33 : decode cM_labelled 33 = .ok (.isub, 1) := by decide +kernel
theorem dM_labelled_34 : decode cM_labelled 34 = .ok (.iconst 1, 1) := by decide +kernel
theorem dM_labelled_35 : decode cM_labelled 35 = .ok (.if_icmp .ne (7), 3) := by decide +kernel
theorem dM_labelled_38 : decode cM_labelled 38 = .ok (.iconst 1, 1) := by decide +kernel
theorem dM_labelled_39 : decode cM_labelled 39 = .ok (.goto (4), 3) := by decide +kernel
theorem dM_labelled_42 : decode cM_labelled 42 = .ok (.iconst 0, 1) := by decide +kernel
theorem dM_labelled_43 : decode cM_labelled 43 = .ok (.istore 4, 2) := by decide +kernel
theorem dM_labelled_45 : decode cM_labelled 45 = .ok (.iload_n 3, 1) := by decide +kernel
theorem dM_labelled_46 : decode cM_labelled 46 = .ok (.ifCond .ne (5), 3) := by decide +kernel
theorem dM_labelled_49 : decode cM_labelled 49 = .ok (.iconst 0, 1) := by decide +kernel
theorem dM_labelled_50 : decode cM_labelled 50 = .ok (.ireturn, 1) := by decide +kernel
theorem dM_labelled_51 : decode cM_labelled 51 = .ok (.iload_n 3, 1) := by decide +kernel
theorem dM_labelled_52 : decode cM_labelled 52 = .ok (.iconst 1, 1) := by decide +kernel
theorem dM_labelled_53 : decode cM_labelled 53 = .ok (.if_icmp .eq (15), 3) := by decide +kernel
theorem dM_labelled_56 : decode cM_labelled 56 = .ok (.iload 4, 2) := by decide +kernel
theorem dM_labelled_58 : decode cM_labelled 58 = .ok (.ifCond .ne (10), 3) := by decide +kernel
theorem dM_labelled_61 : decode cM_labelled 61 = .ok (.aload_n 0, 1) := by decide +kernel
theorem dM_labelled_62 : decode cM_labelled 62 = .ok (.iconst 1, 1) := by decide +kernel
theorem dM_labelled_63 : decode cM_labelled 63 = .ok (.invokevirtual 429, 3) := by decide +kernel
theorem dM_labelled_66 : decode cM_labelled 66 = .ok (.iconst 0, 1) := by decide +kernel
theorem dM_labelled_67 : decode cM_labelled 67 = .ok (.ireturn, 1) := by decide +kernel
theorem dM_labelled_68 : decode cM_labelled 68 = .ok (.aload_n 0, 1) := by decide +kernel
theorem dM_labelled_69 : decode cM_labelled 69 = .ok (.invokevirtual 426, 3) := by decide +kernel
theorem dM_labelled_72 : decode cM_labelled 72 = .ok (.aload_n 0, 1) := by decide +kernel
theorem dM_labelled_73 : decode cM_labelled 73 = .ok (.getfield 375, 3) := by decide +kernel
theorem dM_labelled_76 : decode cM_labelled 76 = .ok (.bipush 58, 2) := by decide +kernel
theorem dM_labelled_78 : decode cM_labelled 78 = .ok (.if_icmp .eq (31), 3) := by decide +kernel
theorem dM_labelled_81 : decode cM_labelled 81 = .ok (.iload 4, 2) := by decide +kernel
theorem dM_labelled_83 : decode cM_labelled 83 = .ok (.ifCond .eq (8), 3) := by decide +kernel
theorem dM_labelled_86 : decode cM_labelled 86 = .ok (.aload_n 0, 1) := by decide +kernel
theorem dM_labelled_87 : decode cM_labelled 87 = .ok (.iconst 1, 1) := by decide +kernel
theorem dM_labelled_88 : decode cM_labelled 88 = .ok (.invokevirtual 429, 3) := by decide +kernel
theorem dM_labelled_91 : decode cM_labelled 91 = .ok (.aload_n 0, 1) := by decide +kernel
theorem dM_labelled_92 : decode cM_labelled 92 = .ok (.iload_n 1, 1) := by decide +kernel
theorem dM_labelled_93 : decode cM_labelled 93 = .ok (.putfield 384, 3) := by decide +kernel
theorem dM_labelled_96 : decode cM_labelled 96 = .ok (.aload_n 0, 1) := by decide +kernel
theorem dM_labelled_97 : decode cM_labelled 97 = .ok (.getfield 420, 3) := by decide +kernel
theorem dM_labelled_100 : decode cM_labelled 100 = .ok (.ifCond .ne (7), 3) := by decide +kernel
theorem dM_labelled_103 : decode cM_labelled 103 = .ok (.iconst 1, 1) := by decide +kernel
theorem dM_labelled_104 : decode cM_labelled 104 = .ok (.goto (4), 3) := by decide +kernel
theorem dM_labelled_107 : decode cM_labelled 107 = .ok (.iconst 0, 1) := by decide +kernel
theorem dM_labelled_108 : decode cM_labelled 108 = .ok (.ireturn, 1) := by decide +kernel
theorem dM_labelled_109 : decode cM_labelled 109 = .ok (.iload 4, 2) := by decide +kernel
theorem dM_labelled_111 : decode cM_labelled 111 = .ok (.ifCond .ne (26), 3) := by decide +kernel
theorem dM_labelled_114 : decode cM_labelled 114 = .ok (.aload_n 0, 1) := by decide +kernel
theorem dM_labelled_115 : decode cM_labelled 115 = .ok (.iload_n 1, 1) := by decide +kernel
theorem dM_labelled_116 : decode cM_labelled 116 = .ok (.iload_n 2, 1) := by decide +kernel
theorem dM_labelled_117 : decode cM_labelled 117 = .ok (.invokevirtual 486, 3) := by decide +kernel
theorem dM_labelled_120 : decode cM_labelled 120 = .ok (.ifCond .ge (12), 3) := by decide +kernel
theorem dM_labelled_123 : decode cM_labelled 123 = .ok (.aload_n 0, 1) := by decide +kernel
theorem dM_labelled_124 : decode cM_labelled 124 = .ok (.iload_n 1, 1) := by decide +kernel
theorem dM_labelled_125 : decode cM_labelled 125 = .ok (.iload_n 2, 1) := by decide +kernel
theorem dM_labelled_126 : decode cM_labelled 126 = .ok (.invokevirtual 489, 3) := by decide +kernel
theorem dM_labelled_129 : decode cM_labelled 129 = .ok (.ifCond .lt (8), 3) := by decide +kernel
theorem dM_labelled_132 : decode cM_labelled 132 = .ok (.aload_n 0, 1) := by decide +kernel
theorem dM_labelled_133 : decode cM_labelled 133 = .ok (.iconst 4, 1) := by decide +kernel
theorem dM_labelled_134 : decode cM_labelled 134 = .ok (.invokevirtual 429, 3) := by decide +kernel
theorem dM_labelled_137 : decode cM_labelled 137 = .ok (.aload_n 0, 1) := by decide +kernel
theorem dM_labelled_138 : decode cM_labelled 138 = .ok (.getfield 420, 3) := by decide +kernel
theorem dM_labelled_141 : decode cM_labelled 141 = .ok (.ifCond .ne (25), 3) := by decide +kernel
theorem dM_labelled_144 : decode cM_labelled 144 = .ok (.aload_n 0, 1) := by decide +kernel
theorem dM_labelled_145 : decode cM_labelled 145 = .ok (.iload_n 1, 1) := by decide +kernel
theorem dM_labelled_146 : decode cM_labelled 146 = .ok (.iload_n 2, 1) := by decide +kernel
theorem dM_labelled_147 : decode cM_labelled 147 = .ok (.aload_n 0, 1) := by decide +kernel
theorem dM_labelled_148 : decode cM_labelled 148 = .ok (.getfield 643, 3) := by decide +kernel
theorem dM_labelled_151 : decode cM_labelled 151 = .ok (.iload 4, 2) := by decide +kernel
theorem dM_labelled_153 : decode cM_labelled 153 = .ok (.ifCond .eq (7), 3) := by decide +kernel
theorem dM_labelled_156 : decode cM_labelled 156 = .ok (.iconst 3, 1) := by decide +kernel
theorem dM_labelled_157 : decode cM_labelled 157 = .ok (.goto (4), 3) := by decide +kernel
theorem dM_labelled_160 : decode cM_labelled 160 = .ok (.iconst 0, 1) := by decide +kernel
theorem dM_labelled_161 : decode cM_labelled 161 = .ok (.iadd, 1) := by decide +kernel
theorem dM_labelled_162 : decode cM_labelled 162 = .ok (.iconst 0, 1) := by decide +kernel
theorem dM_labelled_163 : decode cM_labelled 163 = .ok (.invokevirtual 640, 3) := by decide +kernel
theorem dM_labelled_166 : decode cM_labelled 166 = .ok (.goto (-166), 3) := by decide +kernel
theorem dM_labelled_169 : decode cM_labelled 169 = .ok (.iconst 0, 1) := by decide +kernel
theorem dM_labelled_170 : decode cM_labelled 170 = .ok (.ireturn, 1) := by decide +kernel
abbrev cM_readAll : ByteArray := prog_14_method_76_code
def yM_readAll : MethodName := ⟨RM, "readAll", "()V"⟩
abbrev rm_readAll : Room := { frames := 12, cells := 0, slots := 0, locals := 287 }
theorem dM_readAll_0 : decode cM_readAll 0 = .ok (.aload_n 0, 1) := by decide +kernel
theorem dM_readAll_1 : decode cM_readAll 1 = .ok (.iconst 0, 1) := by decide +kernel
theorem dM_readAll_2 : decode cM_readAll 2 = .ok (.putfield 384, 3) := by decide +kernel
theorem dM_readAll_5 : decode cM_readAll 5 = .ok (.aload_n 0, 1) := by decide +kernel
theorem dM_readAll_6 : decode cM_readAll 6 = .ok (.iconst 1, 1) := by decide +kernel
theorem dM_readAll_7 : decode cM_readAll 7 = .ok (.putfield 423, 3) := by decide +kernel
theorem dM_readAll_10 : decode cM_readAll 10 = .ok (.aload_n 0, 1) := by decide +kernel
theorem dM_readAll_11 : decode cM_readAll 11 = .ok (.iconst 0, 1) := by decide +kernel
theorem dM_readAll_12 : decode cM_readAll 12 = .ok (.putfield 643, 3) := by decide +kernel
theorem dM_readAll_15 : decode cM_readAll 15 = .ok (.aload_n 0, 1) := by decide +kernel
theorem dM_readAll_16 : decode cM_readAll 16 = .ok (.iconst 0, 1) := by decide +kernel
theorem dM_readAll_17 : decode cM_readAll 17 = .ok (.putfield 682, 3) := by decide +kernel
theorem dM_readAll_20 : decode cM_readAll 20 = .ok (.aload_n 0, 1) := by decide +kernel
theorem dM_readAll_21 : decode cM_readAll 21 = .ok (.iconst 0, 1) := by decide +kernel
theorem dM_readAll_22 : decode cM_readAll 22 = .ok (.putfield 449, 3) := by decide +kernel
theorem dM_readAll_25 : decode cM_readAll 25 = .ok (.aload_n 0, 1) := by decide +kernel
theorem dM_readAll_26 : decode cM_readAll 26 = .ok (.getfield 420, 3) := by decide +kernel
theorem dM_readAll_29 : decode cM_readAll 29 = .ok (.ifCond .ne (172), 3) := by decide +kernel
theorem dM_readAll_32 : decode cM_readAll 32 = .ok (.aload_n 0, 1) := by decide +kernel
theorem dM_readAll_33 : decode cM_readAll 33 = .ok (.getfield 384, 3) := by decide +kernel
theorem dM_readAll_36 : decode cM_readAll 36 = .ok (.aload_n 0, 1) := by decide +kernel
theorem dM_readAll_37 : decode cM_readAll 37 = .ok (.getfield 358, 3) := by decide +kernel
theorem dM_readAll_40 : decode cM_readAll 40 = .ok (.if_icmp .ge (161), 3) := by decide +kernel
theorem dM_readAll_43 : decode cM_readAll 43 = .ok (.aload_n 0, 1) := by decide +kernel
theorem dM_readAll_44 : decode cM_readAll 44 = .ok (.invokevirtual 685, 3) := by decide +kernel
theorem dM_readAll_47 : decode cM_readAll 47 = .ok (.ifCond .eq (105), 3) := by decide +kernel
theorem dM_readAll_50 : decode cM_readAll 50 = .ok (.aload_n 0, 1) := by decide +kernel
theorem dM_readAll_51 : decode cM_readAll 51 = .ok (.aload_n 0, 1) := by decide +kernel
theorem dM_readAll_52 : decode cM_readAll 52 = .ok (.getfield 682, 3) := by decide +kernel
theorem dM_readAll_55 : decode cM_readAll 55 = .ok (.putfield 463, 3) := by decide +kernel
theorem dM_readAll_58 : decode cM_readAll 58 = .ok (.aload_n 0, 1) := by decide +kernel
theorem dM_readAll_59 : decode cM_readAll 59 = .ok (.getfield 384, 3) := by decide +kernel
theorem dM_readAll_62 : decode cM_readAll 62 = .ok (.istore_n 1, 1) := by decide +kernel
theorem dM_readAll_63 : decode cM_readAll 63 = .ok (.aload_n 0, 1) := by decide +kernel
theorem dM_readAll_64 : decode cM_readAll 64 = .ok (.getfield 330, 3) := by decide +kernel
theorem dM_readAll_67 : decode cM_readAll 67 = .ok (.aload_n 0, 1) := by decide +kernel
theorem dM_readAll_68 : decode cM_readAll 68 = .ok (.getfield 463, 3) := by decide +kernel
theorem dM_readAll_71 : decode cM_readAll 71 = .ok (.iload_n 1, 1) := by decide +kernel
theorem dM_readAll_72 : decode cM_readAll 72 = .ok (.aload_n 0, 1) := by decide +kernel
theorem dM_readAll_73 : decode cM_readAll 73 = .ok (.getfield 643, 3) := by decide +kernel
theorem dM_readAll_76 : decode cM_readAll 76 = .ok (.bipush 15, 2) := by decide +kernel
theorem dM_readAll_78 : decode cM_readAll 78 = .ok (.ishl, 1) := by decide +kernel
theorem dM_readAll_79 : decode cM_readAll 79 = .ok (.ior, 1) := by decide +kernel
theorem dM_readAll_80 : decode cM_readAll 80 = .ok (.iastore, 1) := by decide +kernel
theorem dM_readAll_81 : decode cM_readAll 81 = .ok (.aload_n 0, 1) := by decide +kernel
theorem dM_readAll_82 : decode cM_readAll 82 = .ok (.getfield 336, 3) := by decide +kernel
theorem dM_readAll_85 : decode cM_readAll 85 = .ok (.aload_n 0, 1) := by decide +kernel
theorem dM_readAll_86 : decode cM_readAll 86 = .ok (.getfield 463, 3) := by decide +kernel
theorem dM_readAll_89 : decode cM_readAll 89 = .ok (.iconst 0, 1) := by decide +kernel
theorem dM_readAll_90 : decode cM_readAll 90 = .ok (.iastore, 1) := by decide +kernel
theorem dM_readAll_91 : decode cM_readAll 91 = .ok (.aload_n 0, 1) := by decide +kernel
theorem dM_readAll_92 : decode cM_readAll 92 = .ok (.getfield 643, 3) := by decide +kernel
theorem dM_readAll_95 : decode cM_readAll 95 = .ok (.istore_n 2, 1) := by decide +kernel
theorem dM_readAll_96 : decode cM_readAll 96 = .ok (.aload_n 0, 1) := by decide +kernel
theorem dM_readAll_97 : decode cM_readAll 97 = .ok (.iload_n 1, 1) := by decide +kernel
theorem dM_readAll_98 : decode cM_readAll 98 = .ok (.iconst 0, 1) := by decide +kernel
theorem dM_readAll_99 : decode cM_readAll 99 = .ok (.invokevirtual 688, 3) := by decide +kernel
theorem dM_readAll_102 : decode cM_readAll 102 = .ok (.iload_n 2, 1) := by decide +kernel
theorem dM_readAll_103 : decode cM_readAll 103 = .ok (.aload_n 0, 1) := by decide +kernel
theorem dM_readAll_104 : decode cM_readAll 104 = .ok (.getfield 643, 3) := by decide +kernel
theorem dM_readAll_107 : decode cM_readAll 107 = .ok (.if_icmp .ne (10), 3) := by decide +kernel
theorem dM_readAll_110 : decode cM_readAll 110 = .ok (.aload_n 0, 1) := by decide +kernel
theorem dM_readAll_111 : decode cM_readAll 111 = .ok (.getfield 463, 3) := by decide +kernel
theorem dM_readAll_114 : decode cM_readAll 114 = .ok (.goto (4), 3) := by decide +kernel
theorem dM_readAll_117 : decode cM_readAll 117 = .ok (.iconst (-1), 1) := by decide +kernel
theorem dM_readAll_118 : decode cM_readAll 118 = .ok (.istore_n 3, 1) := by decide +kernel
theorem dM_readAll_119 : decode cM_readAll 119 = .ok (.iload_n 3, 1) := by decide +kernel
theorem dM_readAll_120 : decode cM_readAll 120 = .ok (.ifCond .lt (32), 3) := by decide +kernel
theorem dM_readAll_123 : decode cM_readAll 123 = .ok (.aload_n 0, 1) := by decide +kernel
theorem dM_readAll_124 : decode cM_readAll 124 = .ok (.dup, 1) := by decide +kernel
theorem dM_readAll_125 : decode cM_readAll 125 = .ok (.getfield 682, 3) := by decide +kernel
theorem dM_readAll_128 : decode cM_readAll 128 = .ok (.iconst 1, 1) := by decide +kernel
theorem dM_readAll_129 : decode cM_readAll 129 = .ok (.iadd, 1) := by decide +kernel
theorem dM_readAll_130 : decode cM_readAll 130 = .ok (.putfield 682, 3) := by decide +kernel
theorem dM_readAll_133 : decode cM_readAll 133 = .ok (.aload_n 0, 1) := by decide +kernel
theorem dM_readAll_134 : decode cM_readAll 134 = .ok (.getfield 336, 3) := by decide +kernel
theorem dM_readAll_137 : decode cM_readAll 137 = .ok (.iload_n 3, 1) := by decide +kernel
theorem dM_readAll_138 : decode cM_readAll 138 = .ok (.iaload, 1) := by decide +kernel
theorem dM_readAll_139 : decode cM_readAll 139 = .ok (.ifCond .ne (13), 3) := by decide +kernel
theorem dM_readAll_142 : decode cM_readAll 142 = .ok (.aload_n 0, 1) := by decide +kernel
theorem dM_readAll_143 : decode cM_readAll 143 = .ok (.getfield 336, 3) := by decide +kernel
theorem dM_readAll_146 : decode cM_readAll 146 = .ok (.iload_n 3, 1) := by decide +kernel
theorem dM_readAll_147 : decode cM_readAll 147 = .ok (.aload_n 0, 1) := by decide +kernel
theorem dM_readAll_148 : decode cM_readAll 148 = .ok (.getfield 544, 3) := by decide +kernel
theorem dM_readAll_151 : decode cM_readAll 151 = .ok (.iastore, 1) := by decide +kernel
theorem dM_readAll_152 : decode cM_readAll 152 = .ok (.aload_n 0, 1) := by decide +kernel
theorem dM_readAll_153 : decode cM_readAll 153 = .ok (.aload_n 0, 1) := by decide +kernel
theorem dM_readAll_154 : decode cM_readAll 154 = .ok (.getfield 384, 3) := by decide +kernel
theorem dM_readAll_157 : decode cM_readAll 157 = .ok (.invokevirtual 368, 3) := by decide +kernel
theorem dM_readAll_160 : decode cM_readAll 160 = .ok (.bipush 10, 2) := by decide +kernel
theorem dM_readAll_162 : decode cM_readAll 162 = .ok (.if_icmp .eq (16), 3) := by decide +kernel
theorem dM_readAll_165 : decode cM_readAll 165 = .ok (.aload_n 0, 1) := by decide +kernel
theorem dM_readAll_166 : decode cM_readAll 166 = .ok (.dup, 1) := by decide +kernel
theorem dM_readAll_167 : decode cM_readAll 167 = .ok (.getfield 384, 3) := by decide +kernel
theorem dM_readAll_170 : decode cM_readAll 170 = .ok (.iconst 1, 1) := by decide +kernel
theorem dM_readAll_171 : decode cM_readAll 171 = .ok (.iadd, 1) := by decide +kernel
theorem dM_readAll_172 : decode cM_readAll 172 = .ok (.putfield 384, 3) := by decide +kernel
theorem dM_readAll_175 : decode cM_readAll 175 = .ok (.goto (-23), 3) := by decide +kernel
theorem dM_readAll_178 : decode cM_readAll 178 = .ok (.aload_n 0, 1) := by decide +kernel
theorem dM_readAll_179 : decode cM_readAll 179 = .ok (.dup, 1) := by decide +kernel
theorem dM_readAll_180 : decode cM_readAll 180 = .ok (.getfield 384, 3) := by decide +kernel
theorem dM_readAll_183 : decode cM_readAll 183 = .ok (.iconst 1, 1) := by decide +kernel
theorem dM_readAll_184 : decode cM_readAll 184 = .ok (.iadd, 1) := by decide +kernel
theorem dM_readAll_185 : decode cM_readAll 185 = .ok (.putfield 384, 3) := by decide +kernel
theorem dM_readAll_188 : decode cM_readAll 188 = .ok (.aload_n 0, 1) := by decide +kernel
theorem dM_readAll_189 : decode cM_readAll 189 = .ok (.dup, 1) := by decide +kernel
theorem dM_readAll_190 : decode cM_readAll 190 = .ok (.getfield 423, 3) := by decide +kernel
theorem dM_readAll_193 : decode cM_readAll 193 = .ok (.iconst 1, 1) := by decide +kernel
theorem dM_readAll_194 : decode cM_readAll 194 = .ok (.iadd, 1) := by decide +kernel
theorem dM_readAll_195 : decode cM_readAll 195 = .ok (.putfield 423, 3) := by decide +kernel
theorem dM_readAll_198 : decode cM_readAll 198 = .ok (.goto (-173), 3) := by decide +kernel
theorem dM_readAll_201 : decode cM_readAll 201 = .ok (.return_, 1) := by decide +kernel
abbrev cM_sizeAt : ByteArray := prog_14_method_77_code
def yM_sizeAt : MethodName := ⟨RM, "sizeAt", "(II)I"⟩
abbrev rm_sizeAt : Room := { frames := 0, cells := 0, slots := 0, locals := 0 }
theorem dM_sizeAt_0 : decode cM_sizeAt 0 = .ok (.aload_n 0, 1) := by decide +kernel
theorem dM_sizeAt_1 : decode cM_sizeAt 1 = .ok (.getfield 336, 3) := by decide +kernel
theorem dM_sizeAt_4 : decode cM_sizeAt 4 = .ok (.iload_n 1, 1) := by decide +kernel
theorem dM_sizeAt_5 : decode cM_sizeAt 5 = .ok (.iaload, 1) := by decide +kernel
theorem dM_sizeAt_6 : decode cM_sizeAt 6 = .ok (.ifCond .ge (19), 3) := by decide +kernel
theorem dM_sizeAt_9 : decode cM_sizeAt 9 = .ok (.iload_n 2, 1) := by decide +kernel
theorem dM_sizeAt_10 : decode cM_sizeAt 10 = .ok (.ineg, 1) := by decide +kernel
theorem dM_sizeAt_11 : decode cM_sizeAt 11 = .ok (.iconst 1, 1) := by decide +kernel
theorem dM_sizeAt_12 : decode cM_sizeAt 12 = .ok (.iconst (-1), 1) := by decide +kernel
theorem dM_sizeAt_13 : decode cM_sizeAt 13 = .ok (.aload_n 0, 1) := by decide +kernel
theorem dM_sizeAt_14 : decode cM_sizeAt 14 = .ok (.getfield 336, 3) := by decide +kernel
theorem dM_sizeAt_17 : decode cM_sizeAt 17 = .ok (.iload_n 1, 1) := by decide +kernel
theorem dM_sizeAt_18 : decode cM_sizeAt 18 = .ok (.iaload, 1) := by decide +kernel
theorem dM_sizeAt_19 : decode cM_sizeAt 19 = .ok (.isub, 1) := by decide +kernel
theorem dM_sizeAt_20 : decode cM_sizeAt 20 = .ok (.ishl, 1) := by decide +kernel
theorem dM_sizeAt_21 : decode cM_sizeAt 21 = .ok (.iconst 1, 1) := by decide +kernel
theorem dM_sizeAt_22 : decode cM_sizeAt 22 = .ok (.isub, 1) := by decide +kernel
theorem dM_sizeAt_23 : decode cM_sizeAt 23 = .ok (.iand, 1) := by decide +kernel
theorem dM_sizeAt_24 : decode cM_sizeAt 24 = .ok (.ireturn, 1) := by decide +kernel
theorem dM_sizeAt_25 : decode cM_sizeAt 25 = .ok (.aload_n 0, 1) := by decide +kernel
theorem dM_sizeAt_26 : decode cM_sizeAt 26 = .ok (.getfield 330, 3) := by decide +kernel
theorem dM_sizeAt_29 : decode cM_sizeAt 29 = .ok (.iload_n 1, 1) := by decide +kernel
theorem dM_sizeAt_30 : decode cM_sizeAt 30 = .ok (.iaload, 1) := by decide +kernel
theorem dM_sizeAt_31 : decode cM_sizeAt 31 = .ok (.bipush 16, 2) := by decide +kernel
theorem dM_sizeAt_33 : decode cM_sizeAt 33 = .ok (.ishr, 1) := by decide +kernel
theorem dM_sizeAt_34 : decode cM_sizeAt 34 = .ok (.ifCond .le (19), 3) := by decide +kernel
theorem dM_sizeAt_37 : decode cM_sizeAt 37 = .ok (.iconst 2, 1) := by decide +kernel
theorem dM_sizeAt_38 : decode cM_sizeAt 38 = .ok (.aload_n 0, 1) := by decide +kernel
theorem dM_sizeAt_39 : decode cM_sizeAt 39 = .ok (.getfield 330, 3) := by decide +kernel
theorem dM_sizeAt_42 : decode cM_sizeAt 42 = .ok (.iload_n 1, 1) := by decide +kernel
theorem dM_sizeAt_43 : decode cM_sizeAt 43 = .ok (.iaload, 1) := by decide +kernel
theorem dM_sizeAt_44 : decode cM_sizeAt 44 = .ok (.bipush 13, 2) := by decide +kernel
theorem dM_sizeAt_46 : decode cM_sizeAt 46 = .ok (.ishr, 1) := by decide +kernel
theorem dM_sizeAt_47 : decode cM_sizeAt 47 = .ok (.iconst 3, 1) := by decide +kernel
theorem dM_sizeAt_48 : decode cM_sizeAt 48 = .ok (.iand, 1) := by decide +kernel
theorem dM_sizeAt_49 : decode cM_sizeAt 49 = .ok (.ishl, 1) := by decide +kernel
theorem dM_sizeAt_50 : decode cM_sizeAt 50 = .ok (.goto (9), 3) := by decide +kernel
theorem dM_sizeAt_53 : decode cM_sizeAt 53 = .ok (.aload_n 0, 1) := by decide +kernel
theorem dM_sizeAt_54 : decode cM_sizeAt 54 = .ok (.getfield 336, 3) := by decide +kernel
theorem dM_sizeAt_57 : decode cM_sizeAt 57 = .ok (.iload_n 1, 1) := by decide +kernel
theorem dM_sizeAt_58 : decode cM_sizeAt 58 = .ok (.iaload, 1) := by decide +kernel
theorem dM_sizeAt_59 : decode cM_sizeAt 59 = .ok (.ireturn, 1) := by decide +kernel
abbrev cM_layout : ByteArray := prog_14_method_79_code
def yM_layout : MethodName := ⟨RM, "layout", "()V"⟩
abbrev rm_layout : Room := { frames := 1, cells := 0, slots := 0, locals := 22 }
theorem dM_layout_0 : decode cM_layout 0 = .ok (.aload_n 0, 1) := by decide +kernel
theorem dM_layout_1 : decode cM_layout 1 = .ok (.iconst 0, 1) := by decide +kernel
theorem dM_layout_2 : decode cM_layout 2 = .ok (.putfield 456, 3) := by decide +kernel
theorem dM_layout_5 : decode cM_layout 5 = .ok (.aload_n 0, 1) := by decide +kernel
theorem dM_layout_6 : decode cM_layout 6 = .ok (.iconst 0, 1) := by decide +kernel
theorem dM_layout_7 : decode cM_layout 7 = .ok (.putfield 691, 3) := by decide +kernel
theorem dM_layout_10 : decode cM_layout 10 = .ok (.iconst 0, 1) := by decide +kernel
theorem dM_layout_11 : decode cM_layout 11 = .ok (.istore_n 1, 1) := by decide +kernel
theorem dM_layout_12 : decode cM_layout 12 = .ok (.iconst 0, 1) := by decide +kernel
theorem dM_layout_13 : decode cM_layout 13 = .ok (.istore_n 2, 1) := by decide +kernel
theorem dM_layout_14 : decode cM_layout 14 = .ok (.iload_n 2, 1) := by decide +kernel
theorem dM_layout_15 : decode cM_layout 15 = .ok (.aload_n 0, 1) := by decide +kernel
theorem dM_layout_16 : decode cM_layout 16 = .ok (.getfield 682, 3) := by decide +kernel
theorem dM_layout_19 : decode cM_layout 19 = .ok (.if_icmp .gt (204), 3) := by decide +kernel
theorem dM_layout_22 : decode cM_layout 22 = .ok (.iload_n 2, 1) := by decide +kernel
theorem dM_layout_23 : decode cM_layout 23 = .ok (.aload_n 0, 1) := by decide +kernel
theorem dM_layout_24 : decode cM_layout 24 = .ok (.getfield 682, 3) := by decide +kernel
theorem dM_layout_27 : decode cM_layout 27 = .ok (.if_icmp .ge (16), 3) := by decide +kernel
theorem dM_layout_30 : decode cM_layout 30 = .ok (.aload_n 0, 1) := by decide +kernel
theorem dM_layout_31 : decode cM_layout 31 = .ok (.getfield 330, 3) := by decide +kernel
theorem dM_layout_34 : decode cM_layout 34 = .ok (.iload_n 2, 1) := by decide +kernel
theorem dM_layout_35 : decode cM_layout 35 = .ok (.iaload, 1) := by decide +kernel
theorem dM_layout_36 : decode cM_layout 36 = .ok (.sipush 8191, 3) := by decide +kernel
theorem dM_layout_39 : decode cM_layout 39 = .ok (.iand, 1) := by decide +kernel
theorem dM_layout_40 : decode cM_layout 40 = .ok (.goto (6), 3) := by decide +kernel
theorem dM_layout_43 : decode cM_layout 43 = .ok (.sipush 8191, 3) := by decide +kernel
theorem dM_layout_46 : decode cM_layout 46 = .ok (.istore_n 3, 1) := by decide +kernel
theorem dM_layout_47 : decode cM_layout 47 = .ok (.iload_n 1, 1) := by decide +kernel
theorem dM_layout_48 : decode cM_layout 48 = .ok (.aload_n 0, 1) := by decide +kernel
theorem dM_layout_49 : decode cM_layout 49 = .ok (.getfield 449, 3) := by decide +kernel
theorem dM_layout_52 : decode cM_layout 52 = .ok (.if_icmp .ge (69), 3) := by decide +kernel
theorem dM_layout_55 : decode cM_layout 55 = .ok (.aload_n 0, 1) := by decide +kernel
theorem dM_layout_56 : decode cM_layout 56 = .ok (.getfield 339, 3) := by decide +kernel
theorem dM_layout_59 : decode cM_layout 59 = .ok (.iload_n 1, 1) := by decide +kernel
theorem dM_layout_60 : decode cM_layout 60 = .ok (.iaload, 1) := by decide +kernel
theorem dM_layout_61 : decode cM_layout 61 = .ok (.sipush 8191, 3) := by decide +kernel
theorem dM_layout_64 : decode cM_layout 64 = .ok (.iand, 1) := by decide +kernel
theorem dM_layout_65 : decode cM_layout 65 = .ok (.iload_n 3, 1) := by decide +kernel
theorem dM_layout_66 : decode cM_layout 66 = .ok (.if_icmp .ge (55), 3) := by decide +kernel
theorem dM_layout_69 : decode cM_layout 69 = .ok (.aload_n 0, 1) := by decide +kernel
theorem dM_layout_70 : decode cM_layout 70 = .ok (.getfield 339, 3) := by decide +kernel
theorem dM_layout_73 : decode cM_layout 73 = .ok (.iload_n 1, 1) := by decide +kernel
theorem dM_layout_74 : decode cM_layout 74 = .ok (.iaload, 1) := by decide +kernel
theorem dM_layout_75 : decode cM_layout 75 = .ok (.bipush 13, 2) := by decide +kernel
theorem dM_layout_77 : decode cM_layout 77 = .ok (.ishr, 1) := by decide +kernel
theorem dM_layout_78 : decode cM_layout 78 = .ok (.istore 4, 2) := by decide +kernel
theorem dM_layout_80 : decode cM_layout 80 = .ok (.iload 4, 2) := by decide +kernel
theorem dM_layout_82 : decode cM_layout 82 = .ok (.iconst 2, 1) := by decide +kernel
theorem dM_layout_83 : decode cM_layout 83 = .ok (.if_icmp .eq (32), 3) := by decide +kernel
theorem dM_layout_86 : decode cM_layout 86 = .ok (.aload_n 0, 1) := by decide +kernel
theorem dM_layout_87 : decode cM_layout 87 = .ok (.getfield 342, 3) := by decide +kernel
theorem dM_layout_90 : decode cM_layout 90 = .ok (.iload_n 1, 1) := by decide +kernel
theorem dM_layout_91 : decode cM_layout 91 = .ok (.iload 4, 2) := by decide +kernel
theorem dM_layout_93 : decode cM_layout 93 = .ok (.iconst 1, 1) := by decide +kernel
theorem dM_layout_94 : decode cM_layout 94 = .ok (.if_icmp .eq (9), 3) := by decide +kernel
theorem dM_layout_97 : decode cM_layout 97 = .ok (.iload 4, 2) := by decide +kernel
theorem dM_layout_99 : decode cM_layout 99 = .ok (.iconst 4, 1) := by decide +kernel
theorem dM_layout_100 : decode cM_layout 100 = .ok (.if_icmp .ne (10), 3) := by decide +kernel
theorem dM_layout_103 : decode cM_layout 103 = .ok (.aload_n 0, 1) := by decide +kernel
theorem dM_layout_104 : decode cM_layout 104 = .ok (.getfield 691, 3) := by decide +kernel
theorem dM_layout_107 : decode cM_layout 107 = .ok (.goto (7), 3) := by decide +kernel
theorem dM_layout_110 : decode cM_layout 110 = .ok (.aload_n 0, 1) := by decide +kernel
theorem dM_layout_111 : decode cM_layout 111 = .ok (.getfield 456, 3) := by decide +kernel
theorem dM_layout_114 : decode cM_layout 114 = .ok (.iastore, 1) := by decide +kernel
theorem dM_layout_115 : decode cM_layout 115 = .ok (.iinc 1 (1), 3) := by decide +kernel
theorem dM_layout_118 : decode cM_layout 118 = .ok (.goto (-71), 3) := by decide +kernel
theorem dM_layout_121 : decode cM_layout 121 = .ok (.iload_n 2, 1) := by decide +kernel
theorem dM_layout_122 : decode cM_layout 122 = .ok (.aload_n 0, 1) := by decide +kernel
theorem dM_layout_123 : decode cM_layout 123 = .ok (.getfield 682, 3) := by decide +kernel
theorem dM_layout_126 : decode cM_layout 126 = .ok (.if_icmp .ne (4), 3) := by decide +kernel
theorem dM_layout_129 : decode cM_layout 129 = .ok (.return_, 1) := by decide +kernel
theorem dM_layout_130 : decode cM_layout 130 = .ok (.aload_n 0, 1) := by decide +kernel
theorem dM_layout_131 : decode cM_layout 131 = .ok (.getfield 333, 3) := by decide +kernel
theorem dM_layout_134 : decode cM_layout 134 = .ok (.iload_n 2, 1) := by decide +kernel
theorem dM_layout_135 : decode cM_layout 135 = .ok (.aload_n 0, 1) := by decide +kernel
theorem dM_layout_136 : decode cM_layout 136 = .ok (.iload_n 2, 1) := by decide +kernel
theorem dM_layout_137 : decode cM_layout 137 = .ok (.invokevirtual 694, 3) := by decide +kernel
theorem dM_layout_140 : decode cM_layout 140 = .ok (.iconst 1, 1) := by decide +kernel
theorem dM_layout_141 : decode cM_layout 141 = .ok (.if_icmp .ne (10), 3) := by decide +kernel
theorem dM_layout_144 : decode cM_layout 144 = .ok (.aload_n 0, 1) := by decide +kernel
theorem dM_layout_145 : decode cM_layout 145 = .ok (.getfield 691, 3) := by decide +kernel
theorem dM_layout_148 : decode cM_layout 148 = .ok (.goto (7), 3) := by decide +kernel
theorem dM_layout_151 : decode cM_layout 151 = .ok (.aload_n 0, 1) := by decide +kernel
theorem dM_layout_152 : decode cM_layout 152 = .ok (.getfield 456, 3) := by decide +kernel
theorem dM_layout_155 : decode cM_layout 155 = .ok (.iastore, 1) := by decide +kernel
theorem dM_layout_156 : decode cM_layout 156 = .ok (.aload_n 0, 1) := by decide +kernel
theorem dM_layout_157 : decode cM_layout 157 = .ok (.iload_n 2, 1) := by decide +kernel
theorem dM_layout_158 : decode cM_layout 158 = .ok (.aload_n 0, 1) := by decide +kernel
theorem dM_layout_159 : decode cM_layout 159 = .ok (.getfield 333, 3) := by decide +kernel
theorem dM_layout_162 : decode cM_layout 162 = .ok (.iload_n 2, 1) := by decide +kernel
theorem dM_layout_163 : decode cM_layout 163 = .ok (.iaload, 1) := by decide +kernel
theorem dM_layout_164 : decode cM_layout 164 = .ok (.invokevirtual 697, 3) := by decide +kernel
theorem dM_layout_167 : decode cM_layout 167 = .ok (.istore 4, 2) := by decide +kernel
theorem dM_layout_169 : decode cM_layout 169 = .ok (.aload_n 0, 1) := by decide +kernel
theorem dM_layout_170 : decode cM_layout 170 = .ok (.dup, 1) := by decide +kernel
theorem dM_layout_171 : decode cM_layout 171 = .ok (.getfield 691, 3) := by decide +kernel
theorem dM_layout_174 : decode cM_layout 174 = .ok (.aload_n 0, 1) := by decide +kernel
theorem dM_layout_175 : decode cM_layout 175 = .ok (.iload_n 2, 1) := by decide +kernel
theorem dM_layout_176 : decode cM_layout 176 = .ok (.invokevirtual 694, 3) := by decide +kernel
theorem dM_layout_179 : decode cM_layout 179 = .ok (.iconst 1, 1) := by decide +kernel
theorem dM_layout_180 : decode cM_layout 180 = .ok (.if_icmp .ne (8), 3) := by decide +kernel
theorem dM_layout_183 : decode cM_layout 183 = .ok (.iload 4, 2) := by decide +kernel
theorem dM_layout_185 : decode cM_layout 185 = .ok (.goto (4), 3) := by decide +kernel
theorem dM_layout_188 : decode cM_layout 188 = .ok (.iconst 0, 1) := by decide +kernel
theorem dM_layout_189 : decode cM_layout 189 = .ok (.iadd, 1) := by decide +kernel
theorem dM_layout_190 : decode cM_layout 190 = .ok (.putfield 691, 3) := by decide +kernel
theorem dM_layout_193 : decode cM_layout 193 = .ok (.aload_n 0, 1) := by decide +kernel
theorem dM_layout_194 : decode cM_layout 194 = .ok (.dup, 1) := by decide +kernel
theorem dM_layout_195 : decode cM_layout 195 = .ok (.getfield 456, 3) := by decide +kernel
theorem dM_layout_198 : decode cM_layout 198 = .ok (.aload_n 0, 1) := by decide +kernel
theorem dM_layout_199 : decode cM_layout 199 = .ok (.iload_n 2, 1) := by decide +kernel
theorem dM_layout_200 : decode cM_layout 200 = .ok (.invokevirtual 694, 3) := by decide +kernel
theorem dM_layout_203 : decode cM_layout 203 = .ok (.iconst 1, 1) := by decide +kernel
theorem dM_layout_204 : decode cM_layout 204 = .ok (.if_icmp .ne (7), 3) := by decide +kernel
theorem dM_layout_207 : decode cM_layout 207 = .ok (.iconst 0, 1) := by decide +kernel
theorem dM_layout_208 : decode cM_layout 208 = .ok (.goto (5), 3) := by decide +kernel
theorem dM_layout_211 : decode cM_layout 211 = .ok (.iload 4, 2) := by decide +kernel
theorem dM_layout_213 : decode cM_layout 213 = .ok (.iadd, 1) := by decide +kernel
theorem dM_layout_214 : decode cM_layout 214 = .ok (.putfield 456, 3) := by decide +kernel
theorem dM_layout_217 : decode cM_layout 217 = .ok (.iinc 2 (1), 3) := by decide +kernel
theorem dM_layout_220 : decode cM_layout 220 = .ok (.goto (-206), 3) := by decide +kernel
theorem dM_layout_223 : decode cM_layout 223 = .ok (.return_, 1) := by decide +kernel
theorem gM_addressOf_700 : GoodIn lw_gd (wsV RM 700 RM yM_addressOf (.code yM_addressOf cM_addressOf 2 (some .int) :: lw_gd)) := lw_GV q_2117 q_2114 q_2116 qs_117 q_23
theorem gM_labelled_685 : GoodIn lw_gd (wsV RM 685 RM yM_labelled (.code yM_labelled cM_labelled 5 (some .boolean) :: lw_gd)) := lw_GV q_1805 q_1802 q_1804 qs_52 q_23
theorem gM_sizeAt_697 : GoodIn lw_gd (wsV RM 697 RM yM_sizeAt (.code yM_sizeAt cM_sizeAt 3 (some .int) :: lw_gd)) := lw_GV q_2109 q_2106 q_2108 qs_115 q_23
theorem gM_statement_688 : GoodIn lw_gd (wsV RM 688 RM yM_statement (.code yM_statement cM_statement 8 none :: lw_gd)) := lw_GV q_1889 q_1886 q_1888 qs_68 q_23
section
variable {p : Program} {l : Launch} {e : Env} {s : State} {m : MethodId} {args : Array Value} {below : List Frame} {meth : Method} {c : Code} {D : va_G} {dA : Nat → ClassId} {h : Nat → Nat} {A : Nat → Prop}
def M_again (N : Nat) (x1 : Int32) (x2 : Int32) (σ : MS) : Option (Int32 × MS) :=
  bnd (sF σ 18 x1) (fun σ1 => cr (M_addressOf  x1 σ1) (fun r2 => bnd (sF σ1 19 r2) (fun σ3 => cr (M_sectionOf  x1 σ3) (fun r4 => bnd (sF σ3 16 r4) (fun σ5 => gd (inB x1 1030) (cl (M_statement N ((σ5.2 2 x1.toNatClampNeg) &&& (8191 : Int32)) x2 σ5) (fun r7 σ8 => some ((0 : Int32), σ8))))))))
set_option maxHeartbeats 4000000 in
set_option maxRecDepth 100000 in
theorem bM_again_0 (N : Nat)  {r : Int32} {σ' : MS} (C : CxM p s m args meth c cM_again 3 none D dA A) (x1 : Int32) (x2 : Int32) (σ : MS) (hM : M_again N  x1 x2 σ = some (r, σ')) (H : Heap) (locs : List Loc) (hW : WdM D dA h A s σ H locs) (ls : Array Slot) (hl : lv_has ls 3 [(0, .ref (h 0)), (1, .int x1), (2, .int x2)]) : W p l e rm_again s m args below meth c H locs 0 0 (MQ below (QM D dA h A σ' none) args s 0 0 A) (F0 m 0 ls []) := by
  have hx := C.1.1
  have hb := C.1.2.1
  have hown := C.1.2.2.2.2.1
  have hT := C.1.2.2.2.2.2.1
  unfold M_again at hM
  refine lv_aload_n (pc := 0) hx hb dM_again_0 rfl (lv_at hl 0 rfl) ?_
  refine lv_iload_n (pc := 1) hx hb dM_again_1 rfl (lv_at hl 1 rfl) ?_
  refine pM (pc := 2) (ty := .int) C hW 28 18 (by decide) q_1685 rfl rfl (by decide +kernel) rfl rfl (st_current dA h _ _) dM_again_2 (fun H locs hW => ?_)
  obtain ⟨σ1, eσ1, hM⟩ := bnd_some hM
  rw [← eσ1] at hW
  refine lv_aload_n (pc := 5) hx hb dM_again_5 rfl (lv_at hl 0 rfl) ?_
  refine lv_aload_n (pc := 6) hx hb dM_again_6 rfl (lv_at hl 0 rfl) ?_
  refine lv_iload_n (pc := 7) hx hb dM_again_7 rfl (lv_at hl 1 rfl) ?_
  obtain ⟨r2, hr2, hM⟩ := cr_some hM
  refine x_callRi (pc := 8) C hW (kM_addressOf l D dA h  x1 _ hr2) gM_addressOf_700 ⟨rfl, by decide, by decide, by decide +kernel⟩ ⟨rfl, rfl⟩ ⟨by decide, by decide⟩ ⟨by decide, by decide⟩ (As := [.int x1]) (n := 1) rfl hl.1 rfl (Nat.le_of_ble_eq_true rfl) dM_again_8 ?_
  refine pM (pc := 11) (ty := .int) C hW 29 19 (by decide) q_1686 rfl rfl (by decide +kernel) rfl rfl (st_address dA h _ _) dM_again_11 (fun H locs hW => ?_)
  obtain ⟨σ3, eσ3, hM⟩ := bnd_some hM
  rw [← eσ3] at hW
  refine lv_aload_n (pc := 14) hx hb dM_again_14 rfl (lv_at hl 0 rfl) ?_
  refine lv_aload_n (pc := 15) hx hb dM_again_15 rfl (lv_at hl 0 rfl) ?_
  refine lv_iload_n (pc := 16) hx hb dM_again_16 rfl (lv_at hl 1 rfl) ?_
  obtain ⟨r4, hr4, hM⟩ := cr_some hM
  refine x_callRi (pc := 17) C hW (kM_sectionOf l D dA h  x1 _ hr4) gM_sectionOf_694 ⟨rfl, by decide, by decide, by decide +kernel⟩ ⟨rfl, rfl⟩ ⟨by decide, by decide⟩ ⟨by decide, by decide⟩ (As := [.int x1]) (n := 1) rfl hl.1 rfl (Nat.le_of_ble_eq_true rfl) dM_again_17 ?_
  refine pM (pc := 20) (ty := .int) C hW 26 16 (by decide) q_1683 rfl rfl (by decide +kernel) rfl rfl (st_section dA h _ _) dM_again_20 (fun H locs hW => ?_)
  obtain ⟨σ5, eσ5, hM⟩ := bnd_some hM
  rw [← eσ5] at hW
  refine lv_aload_n (pc := 23) hx hb dM_again_23 rfl (lv_at hl 0 rfl) ?_
  refine lv_aload_n (pc := 24) hx hb dM_again_24 rfl (lv_at hl 0 rfl) ?_
  refine gM (pc := 25) C hW 10 (by decide) q_1667 rfl rfl dM_again_25 ?_
  refine lv_iload_n (pc := 28) hx hb dM_again_28 rfl (lv_at hl 1 rfl) ?_
  obtain ⟨hg6, hM⟩ := gd_some hM
  refine x_ldI (pc := 29) C hW 6 rfl hg6 dM_again_29 ?_
  refine lv_sipush (pc := 30) (v := 8191) hx hb dM_again_30 (by decide) ?_
  refine lv_iand (pc := 33) hx hb dM_again_33 ?_
  refine lv_iload_n (pc := 34) hx hb dM_again_34 rfl (lv_at hl 2 rfl) ?_
  obtain ⟨r7, σ8, hr7, hM⟩ := cl_some hM
  refine x_callMv (pc := 35) C hW (kM_statement l D dA h N ((σ5.2 2 x1.toNatClampNeg) &&& (8191 : Int32)) x2 _ hr7) gM_statement_688 ⟨rfl, by decide, by decide, by decide +kernel⟩ ⟨rfl, rfl⟩ ⟨by decide, by decide⟩ ⟨by decide, by decide⟩ (As := [.int ((σ5.2 2 x1.toNatClampNeg) &&& (8191 : Int32)), .int x2]) (n := 2) rfl hl.1 rfl (Nat.le_of_ble_eq_true rfl) dM_again_35 (fun H locs hW => ?_)
  obtain ⟨rfl, rfl⟩ := sm_p hM
  exact x_retMv (pc := 38) C rfl hW dM_again_38
theorem kM_again (l : Launch) (D : va_G) (dA : Nat → ClassId) (h : Nat → Nat) (N : Nat) (x1 : Int32) (x2 : Int32) (σ : MS) {r : Int32} {σ' : MS} (hM : M_again N x1 x2 σ = some (r, σ')) : KM l D dA yM_again cM_again 3 none rm_again h σ [.int x1, .int x2] none σ' := x_enterM rfl (Nat.le_of_ble_eq_true rfl) (fun p e s m args below meth c A C hW ls hl => bM_again_0 N C x1 x2 σ hM s.heap [] hW ls hl)
def M_all_34 (t0 : Int32) (σ : MS) : Option Int32 :=
  some t0
set_option maxHeartbeats 4000000 in
set_option maxRecDepth 100000 in
theorem bM_all_34  {r : Int32} (C : CxM p s m args meth c cM_all 1 (some .int) D dA A) (t0 : Int32) (σ : MS) (hM : M_all_34  t0 σ = some r) (hW : WdM D dA h A s σ s.heap []) (ls : Array Slot) (hl : lv_has ls 1 []) : W p l e rm_all s m args below meth c s.heap [] 0 0 (MQ below (QS (some (.int r))) args s 0 0 (fun _ => False)) (F0 m 34 ls [.int t0]) := by
  have hx := C.1.1
  have hb := C.1.2.1
  have hown := C.1.2.2.2.2.1
  have hT := C.1.2.2.2.2.2.1
  unfold M_all_34 at hM
  obtain rfl := sm_i hM
  exact x_retS (pc := 34) C.1 rfl dM_all_34
def M_all  (σ : MS) : Option Int32 :=
  (if (σ.1 3) = 0 then M_all_34  (0 : Int32) σ else (if (σ.1 7) ≤ 0 then M_all_34  (σ.1 6) σ else cr (M_base  σ) (fun r1 => M_all_34  (r1 + (σ.1 7)) σ)))
set_option maxHeartbeats 4000000 in
set_option maxRecDepth 100000 in
theorem bM_all_0  {r : Int32} (C : CxM p s m args meth c cM_all 1 (some .int) D dA A)  (σ : MS) (hM : M_all   σ = some r) (hW : WdM D dA h A s σ s.heap []) (ls : Array Slot) (hl : lv_has ls 1 [(0, .ref (h 0))]) : W p l e rm_all s m args below meth c s.heap [] 0 0 (MQ below (QS (some (.int r))) args s 0 0 (fun _ => False)) (F0 m 0 ls []) := by
  have hx := C.1.1
  have hb := C.1.2.1
  have hown := C.1.2.2.2.2.1
  have hT := C.1.2.2.2.2.2.1
  unfold M_all at hM
  refine lv_aload_n (pc := 0) hx hb dM_all_0 rfl (lv_at hl 0 rfl) ?_
  refine gM (pc := 1) C hW 8 (by decide) q_1665 rfl rfl dM_all_1 ?_
  refine lv_if_ne (pc := 4) (tgt := 11) hx hb dM_all_4 (by decide) (fun hc => ?_) (fun hc => ?_)
  · replace hM := it_f hc hM
    refine lv_aload_n (pc := 11) hx hb dM_all_11 rfl (lv_at hl 0 rfl) ?_
    refine gM (pc := 12) C hW 17 (by decide) q_1674 rfl rfl dM_all_12 ?_
    refine lv_if_le (pc := 15) (tgt := 30) hx hb dM_all_15 (by decide) (fun hc => ?_) (fun hc => ?_)
    · replace hM := it_t hc hM
      refine lv_aload_n (pc := 30) hx hb dM_all_30 rfl (lv_at hl 0 rfl) ?_
      refine gM (pc := 31) C hW 16 (by decide) q_1673 rfl rfl dM_all_31 ?_
      exact bM_all_34  C  _ _ hM hW _ (lv_sub hl [] rfl)
    · replace hM := it_f hc hM
      refine lv_aload_n (pc := 18) hx hb dM_all_18 rfl (lv_at hl 0 rfl) ?_
      obtain ⟨r1, hr1, hM⟩ := cr_some hM
      refine x_callRi (pc := 19) C hW (kM_base l D dA h  _ hr1) gM_base_459 ⟨rfl, by decide, by decide, by decide +kernel⟩ ⟨rfl, rfl⟩ ⟨by decide, by decide⟩ ⟨by decide, by decide⟩ (As := []) (n := 0) rfl hl.1 rfl (Nat.le_of_ble_eq_true rfl) dM_all_19 ?_
      refine lv_aload_n (pc := 22) hx hb dM_all_22 rfl (lv_at hl 0 rfl) ?_
      refine gM (pc := 23) C hW 17 (by decide) q_1674 rfl rfl dM_all_23 ?_
      refine lv_iadd (pc := 26) hx hb dM_all_26 ?_
      refine lv_goto (pc := 27) (tgt := 34) hx hb dM_all_27 (by decide) ?_
      exact bM_all_34  C  _ _ hM hW _ (lv_sub hl [] rfl)
  · replace hM := it_t hc hM
    refine lv_iconst (pc := 7) (v := 0) hx hb dM_all_7 (by decide) ?_
    refine lv_goto (pc := 8) (tgt := 34) hx hb dM_all_8 (by decide) ?_
    exact bM_all_34  C  _ _ hM hW _ (lv_sub hl [] rfl)
theorem kM_all (l : Launch) (D : va_G) (dA : Nat → ClassId) (h : Nat → Nat)  (σ : MS) {r : Int32} (hM : M_all  σ = some r) : KR l D dA yM_all cM_all 1 (some .int) rm_all h σ [] (some (.int r)) := x_enterR rfl (Nat.le_of_ble_eq_true rfl) (fun p e s m args below meth c A C hW ls hl => bM_all_0 C  σ hM hW ls hl)
def M_lineOf_27 (N : Nat) (rec4 : Int32 → Int32 → Int32 → MS → Option Int32) (x1 : Int32) (x3 : Int32) (t0 : Int32) (σ : MS) : Option Int32 :=
  rec4 x1 t0 (x3 + (1 : Int32)) σ
set_option maxHeartbeats 4000000 in
set_option maxRecDepth 100000 in
theorem bM_lineOf_27 (N : Nat) (rec4 : Int32 → Int32 → Int32 → MS → Option Int32) {r : Int32} (C : CxM p s m args meth c cM_lineOf 4 (some .int) D dA A) (hrec4 : ∀ (x1 : Int32) (x2 : Int32) (x3 : Int32) (σ : MS), rec4 x1 x2 x3 σ = some r → WdM D dA h A s σ s.heap [] → ∀ (ls : Array Slot), lv_has ls 4 [(0, .ref (h 0)), (1, .int x1), (2, .int x2), (3, .int x3)] → W p l e rm_lineOf s m args below meth c s.heap [] 0 0 (MQ below (QS (some (.int r))) args s 0 0 (fun _ => False)) (F0 m 4 ls [])) (x1 : Int32) (x3 : Int32) (t0 : Int32) (σ : MS) (hM : M_lineOf_27 N rec4 x1 x3 t0 σ = some r) (hW : WdM D dA h A s σ s.heap []) (ls : Array Slot) (hl : lv_has ls 4 [(0, .ref (h 0)), (1, .int x1), (3, .int x3)]) : W p l e rm_lineOf s m args below meth c s.heap [] 0 0 (MQ below (QS (some (.int r))) args s 0 0 (fun _ => False)) (F0 m 27 ls [.int t0]) := by
  have hx := C.1.1
  have hb := C.1.2.1
  have hown := C.1.2.2.2.2.1
  have hT := C.1.2.2.2.2.2.1
  unfold M_lineOf_27 at hM
  refine lv_istore_n (pc := 27) (lv' := [(2, .int t0), (0, .ref (h 0)), (1, .int x1), (3, .int x3)]) hx hb dM_lineOf_27 rfl hl (by decide) rfl (fun ls hl => ?_)
  refine lv_iinc (pc := 28) (v := x3 + (1 : Int32)) (lv' := [(3, .int (x3 + (1 : Int32))), (2, .int t0), (0, .ref (h 0)), (1, .int x1)]) hx hb dM_lineOf_28 hl (k := 3) rfl rfl (by decide) rfl (fun ls hl => ?_)
  refine lv_goto (pc := 31) (tgt := 4) hx hb dM_lineOf_31 (by decide) ?_
  exact hrec4 _ _ _ _ hM hW _ (lv_sub hl [2, 3, 1, 0] rfl)
def M_lineOf_4 (N : Nat)  : Nat → Int32 → Int32 → Int32 → MS → Option Int32
  | 0 => fun _ _ _ _ => none
  | n + 1 => fun x1 x2 x3 σ => (if x1 ≤ x3 then some x2 else gd (inB x3 4100) ((if (σ.2 1 x3.toNatClampNeg) = (10 : Int32) then M_lineOf_27 N (M_lineOf_4 N  n) x1 x3 (x2 + (1 : Int32)) σ else M_lineOf_27 N (M_lineOf_4 N  n) x1 x3 x2 σ)))
set_option maxHeartbeats 4000000 in
set_option maxRecDepth 100000 in
theorem bM_lineOf_4 (N : Nat)  {r : Int32} (C : CxM p s m args meth c cM_lineOf 4 (some .int) D dA A) : ∀ (n : Nat) (x1 : Int32) (x2 : Int32) (x3 : Int32) (σ : MS), M_lineOf_4 N  n x1 x2 x3 σ = some r → WdM D dA h A s σ s.heap [] → ∀ (ls : Array Slot), lv_has ls 4 [(0, .ref (h 0)), (1, .int x1), (2, .int x2), (3, .int x3)] → W p l e rm_lineOf s m args below meth c s.heap [] 0 0 (MQ below (QS (some (.int r))) args s 0 0 (fun _ => False)) (F0 m 4 ls []) := by
  have hx := C.1.1
  have hb := C.1.2.1
  have hown := C.1.2.2.2.2.1
  have hT := C.1.2.2.2.2.2.1
  intro n
  induction n with
  | zero => intro x1 x2 x3 σ hM; cases hM
  | succ n hrec4 =>
    intro x1 x2 x3 σ hM hW ls hl
    rw [M_lineOf_4] at hM
    refine lv_iload_n (pc := 4) hx hb dM_lineOf_4 rfl (lv_at hl 3 rfl) ?_
    refine lv_iload_n (pc := 5) hx hb dM_lineOf_5 rfl (lv_at hl 1 rfl) ?_
    refine lv_icmp_ge (pc := 6) (tgt := 34) hx hb dM_lineOf_6 (by decide) (fun hc => ?_) (fun hc => ?_)
    · replace hM := it_t hc hM
      refine lv_iload_n (pc := 34) hx hb dM_lineOf_34 rfl (lv_at hl 2 rfl) ?_
      obtain rfl := sm_i hM
      exact x_retS (pc := 35) C.1 rfl dM_lineOf_35
    · replace hM := it_f hc hM
      refine lv_aload_n (pc := 9) hx hb dM_lineOf_9 rfl (lv_at hl 0 rfl) ?_
      refine gM (pc := 10) C hW 6 (by decide) q_1663 rfl rfl dM_lineOf_10 ?_
      refine lv_iload_n (pc := 13) hx hb dM_lineOf_13 rfl (lv_at hl 3 rfl) ?_
      obtain ⟨hg1, hM⟩ := gd_some hM
      refine x_ldC (pc := 14) C hW 5 rfl hg1 dM_lineOf_14 ?_
      refine lv_bipush (pc := 15) (v := 10) hx hb dM_lineOf_15 (by decide) ?_
      refine lv_icmp_ne (pc := 17) (tgt := 26) hx hb dM_lineOf_17 (by decide) (fun hc => ?_) (fun hc => ?_)
      · replace hM := it_f hc hM
        refine lv_iload_n (pc := 26) hx hb dM_lineOf_26 rfl (lv_at hl 2 rfl) ?_
        exact bM_lineOf_27 N _ C hrec4 _ _ _ _ hM hW _ (lv_sub hl [0, 1, 3] rfl)
      · replace hM := it_t hc hM
        refine lv_iload_n (pc := 20) hx hb dM_lineOf_20 rfl (lv_at hl 2 rfl) ?_
        refine lv_iconst (pc := 21) (v := 1) hx hb dM_lineOf_21 (by decide) ?_
        refine lv_iadd (pc := 22) hx hb dM_lineOf_22 ?_
        refine lv_goto (pc := 23) (tgt := 27) hx hb dM_lineOf_23 (by decide) ?_
        exact bM_lineOf_27 N _ C hrec4 _ _ _ _ hM hW _ (lv_sub hl [0, 1, 3] rfl)
def M_lineOf (N : Nat) (x1 : Int32) (σ : MS) : Option Int32 :=
  M_lineOf_4 N  N x1 (1 : Int32) (0 : Int32) σ
set_option maxHeartbeats 4000000 in
set_option maxRecDepth 100000 in
theorem bM_lineOf_0 (N : Nat)  {r : Int32} (C : CxM p s m args meth c cM_lineOf 4 (some .int) D dA A) (x1 : Int32) (σ : MS) (hM : M_lineOf N  x1 σ = some r) (hW : WdM D dA h A s σ s.heap []) (ls : Array Slot) (hl : lv_has ls 4 [(0, .ref (h 0)), (1, .int x1)]) : W p l e rm_lineOf s m args below meth c s.heap [] 0 0 (MQ below (QS (some (.int r))) args s 0 0 (fun _ => False)) (F0 m 0 ls []) := by
  have hx := C.1.1
  have hb := C.1.2.1
  have hown := C.1.2.2.2.2.1
  have hT := C.1.2.2.2.2.2.1
  unfold M_lineOf at hM
  refine lv_iconst (pc := 0) (v := 1) hx hb dM_lineOf_0 (by decide) ?_
  refine lv_istore_n (pc := 1) (lv' := [(2, .int (1 : Int32)), (0, .ref (h 0)), (1, .int x1)]) hx hb dM_lineOf_1 rfl hl (by decide) rfl (fun ls hl => ?_)
  refine lv_iconst (pc := 2) (v := 0) hx hb dM_lineOf_2 (by decide) ?_
  refine lv_istore_n (pc := 3) (lv' := [(3, .int (0 : Int32)), (2, .int (1 : Int32)), (0, .ref (h 0)), (1, .int x1)]) hx hb dM_lineOf_3 rfl hl (by decide) rfl (fun ls hl => ?_)
  exact bM_lineOf_4 N  C  N _ _ _ _ hM hW _ (lv_sub hl [2, 3, 1, 0] rfl)
theorem kM_lineOf (l : Launch) (D : va_G) (dA : Nat → ClassId) (h : Nat → Nat) (N : Nat) (x1 : Int32) (σ : MS) {r : Int32} (hM : M_lineOf N x1 σ = some r) : KR l D dA yM_lineOf cM_lineOf 4 (some .int) rm_lineOf h σ [.int x1] (some (.int r)) := x_enterR rfl (Nat.le_of_ble_eq_true rfl) (fun p e s m args below meth c A C hW ls hl => bM_lineOf_0 N C x1 σ hM hW ls hl)
def M_labelled_166 (N : Nat) (rec0 : MS → Option (Int32 × MS))  (σ : MS) : Option (Int32 × MS) :=
  rec0 σ
set_option maxHeartbeats 4000000 in
set_option maxRecDepth 100000 in
theorem bM_labelled_166 (N : Nat) (rec0 : MS → Option (Int32 × MS)) {r : Int32} {σ' : MS} (C : CxM p s m args meth c cM_labelled 5 (some .boolean) D dA A) (hrec0 : ∀  (σ : MS), rec0  σ = some (r, σ') → ∀ (H : Heap) (locs : List Loc), WdM D dA h A s σ H locs → ∀ (ls : Array Slot), lv_has ls 5 [(0, .ref (h 0))] → W p l e rm_labelled s m args below meth c H locs 0 0 (MQ below (QM D dA h A σ' (some (.int r))) args s 0 0 A) (F0 m 0 ls []))  (σ : MS) (hM : M_labelled_166 N rec0  σ = some (r, σ')) (H : Heap) (locs : List Loc) (hW : WdM D dA h A s σ H locs) (ls : Array Slot) (hl : lv_has ls 5 [(0, .ref (h 0))]) : W p l e rm_labelled s m args below meth c H locs 0 0 (MQ below (QM D dA h A σ' (some (.int r))) args s 0 0 A) (F0 m 166 ls []) := by
  have hx := C.1.1
  have hb := C.1.2.1
  have hown := C.1.2.2.2.2.1
  have hT := C.1.2.2.2.2.2.1
  unfold M_labelled_166 at hM
  refine lv_goto (pc := 166) (tgt := 0) hx hb dM_labelled_166 (by decide) ?_
  exact hrec0  _ hM _ _ hW _ (lv_sub hl [0] rfl)
def M_labelled_161 (N : Nat) (rec0 : MS → Option (Int32 × MS)) (t1 : Int32) (t2 : Int32) (t3 : Int32) (t4 : Int32) (σ : MS) : Option (Int32 × MS) :=
  cl (M_define  t1 t2 (t3 + t4) (0 : Int32) σ) (fun r1 σ2 => M_labelled_166 N rec0 σ2)
set_option maxHeartbeats 4000000 in
set_option maxRecDepth 100000 in
theorem bM_labelled_161 (N : Nat) (rec0 : MS → Option (Int32 × MS)) {r : Int32} {σ' : MS} (C : CxM p s m args meth c cM_labelled 5 (some .boolean) D dA A) (hrec0 : ∀  (σ : MS), rec0  σ = some (r, σ') → ∀ (H : Heap) (locs : List Loc), WdM D dA h A s σ H locs → ∀ (ls : Array Slot), lv_has ls 5 [(0, .ref (h 0))] → W p l e rm_labelled s m args below meth c H locs 0 0 (MQ below (QM D dA h A σ' (some (.int r))) args s 0 0 A) (F0 m 0 ls [])) (t1 : Int32) (t2 : Int32) (t3 : Int32) (t4 : Int32) (σ : MS) (hM : M_labelled_161 N rec0 t1 t2 t3 t4 σ = some (r, σ')) (H : Heap) (locs : List Loc) (hW : WdM D dA h A s σ H locs) (ls : Array Slot) (hl : lv_has ls 5 [(0, .ref (h 0))]) : W p l e rm_labelled s m args below meth c H locs 0 0 (MQ below (QM D dA h A σ' (some (.int r))) args s 0 0 A) (F0 m 161 ls [.int t4, .int t3, .int t2, .int t1, .ref (h 0)]) := by
  have hx := C.1.1
  have hb := C.1.2.1
  have hown := C.1.2.2.2.2.1
  have hT := C.1.2.2.2.2.2.1
  unfold M_labelled_161 at hM
  refine lv_iadd (pc := 161) hx hb dM_labelled_161 ?_
  refine lv_iconst (pc := 162) (v := 0) hx hb dM_labelled_162 (by decide) ?_
  obtain ⟨r1, σ2, hr1, hM⟩ := cl_some hM
  refine x_callMv (pc := 163) C hW (kM_define l D dA h  t1 t2 (t3 + t4) (0 : Int32) _ hr1) gM_define_640 ⟨rfl, by decide, by decide, by decide +kernel⟩ ⟨rfl, rfl⟩ ⟨by decide, by decide⟩ ⟨by decide, by decide⟩ (As := [.int t1, .int t2, .int (t3 + t4), .int (0 : Int32)]) (n := 4) rfl hl.1 rfl (Nat.le_of_ble_eq_true rfl) dM_labelled_163 (fun H locs hW => ?_)
  exact bM_labelled_166 N rec0 C hrec0  _ hM _ _ hW _ (lv_sub hl [0] rfl)
def M_labelled_137 (N : Nat) (rec0 : MS → Option (Int32 × MS)) (x1 : Int32) (x2 : Int32) (x4 : Int32) (σ : MS) : Option (Int32 × MS) :=
  (if (σ.1 14) = 0 then (if x4 = 0 then M_labelled_161 N rec0 x1 x2 (σ.1 16) (0 : Int32) σ else M_labelled_161 N rec0 x1 x2 (σ.1 16) (3 : Int32) σ) else M_labelled_166 N rec0 σ)
set_option maxHeartbeats 4000000 in
set_option maxRecDepth 100000 in
theorem bM_labelled_137 (N : Nat) (rec0 : MS → Option (Int32 × MS)) {r : Int32} {σ' : MS} (C : CxM p s m args meth c cM_labelled 5 (some .boolean) D dA A) (hrec0 : ∀  (σ : MS), rec0  σ = some (r, σ') → ∀ (H : Heap) (locs : List Loc), WdM D dA h A s σ H locs → ∀ (ls : Array Slot), lv_has ls 5 [(0, .ref (h 0))] → W p l e rm_labelled s m args below meth c H locs 0 0 (MQ below (QM D dA h A σ' (some (.int r))) args s 0 0 A) (F0 m 0 ls [])) (x1 : Int32) (x2 : Int32) (x4 : Int32) (σ : MS) (hM : M_labelled_137 N rec0 x1 x2 x4 σ = some (r, σ')) (H : Heap) (locs : List Loc) (hW : WdM D dA h A s σ H locs) (ls : Array Slot) (hl : lv_has ls 5 [(0, .ref (h 0)), (1, .int x1), (2, .int x2), (4, .int x4)]) : W p l e rm_labelled s m args below meth c H locs 0 0 (MQ below (QM D dA h A σ' (some (.int r))) args s 0 0 A) (F0 m 137 ls []) := by
  have hx := C.1.1
  have hb := C.1.2.1
  have hown := C.1.2.2.2.2.1
  have hT := C.1.2.2.2.2.2.1
  unfold M_labelled_137 at hM
  refine lv_aload_n (pc := 137) hx hb dM_labelled_137 rfl (lv_at hl 0 rfl) ?_
  refine gM (pc := 138) C hW 24 (by decide) q_1681 rfl rfl dM_labelled_138 ?_
  refine lv_if_ne (pc := 141) (tgt := 166) hx hb dM_labelled_141 (by decide) (fun hc => ?_) (fun hc => ?_)
  · replace hM := it_f hc hM
    exact bM_labelled_166 N rec0 C hrec0  _ hM _ _ hW _ (lv_sub hl [0] rfl)
  · replace hM := it_t hc hM
    refine lv_aload_n (pc := 144) hx hb dM_labelled_144 rfl (lv_at hl 0 rfl) ?_
    refine lv_iload_n (pc := 145) hx hb dM_labelled_145 rfl (lv_at hl 1 rfl) ?_
    refine lv_iload_n (pc := 146) hx hb dM_labelled_146 rfl (lv_at hl 2 rfl) ?_
    refine lv_aload_n (pc := 147) hx hb dM_labelled_147 rfl (lv_at hl 0 rfl) ?_
    refine gM (pc := 148) C hW 26 (by decide) q_1683 rfl rfl dM_labelled_148 ?_
    refine lv_iload (pc := 151) hx hb dM_labelled_151 (lv_at hl 3 rfl) ?_
    refine lv_if_eq (pc := 153) (tgt := 160) hx hb dM_labelled_153 (by decide) (fun hc => ?_) (fun hc => ?_)
    · replace hM := it_t hc hM
      refine lv_iconst (pc := 160) (v := 0) hx hb dM_labelled_160 (by decide) ?_
      exact bM_labelled_161 N rec0 C hrec0 _ _ _ _ _ hM _ _ hW _ (lv_sub hl [0] rfl)
    · replace hM := it_f hc hM
      refine lv_iconst (pc := 156) (v := 3) hx hb dM_labelled_156 (by decide) ?_
      refine lv_goto (pc := 157) (tgt := 161) hx hb dM_labelled_157 (by decide) ?_
      exact bM_labelled_161 N rec0 C hrec0 _ _ _ _ _ hM _ _ hW _ (lv_sub hl [0] rfl)
def M_labelled_132 (N : Nat) (rec0 : MS → Option (Int32 × MS)) (x1 : Int32) (x2 : Int32) (x4 : Int32) (σ : MS) : Option (Int32 × MS) :=
  cl (M_blame  (4 : Int32) σ) (fun r1 σ2 => M_labelled_137 N rec0 x1 x2 x4 σ2)
set_option maxHeartbeats 4000000 in
set_option maxRecDepth 100000 in
theorem bM_labelled_132 (N : Nat) (rec0 : MS → Option (Int32 × MS)) {r : Int32} {σ' : MS} (C : CxM p s m args meth c cM_labelled 5 (some .boolean) D dA A) (hrec0 : ∀  (σ : MS), rec0  σ = some (r, σ') → ∀ (H : Heap) (locs : List Loc), WdM D dA h A s σ H locs → ∀ (ls : Array Slot), lv_has ls 5 [(0, .ref (h 0))] → W p l e rm_labelled s m args below meth c H locs 0 0 (MQ below (QM D dA h A σ' (some (.int r))) args s 0 0 A) (F0 m 0 ls [])) (x1 : Int32) (x2 : Int32) (x4 : Int32) (σ : MS) (hM : M_labelled_132 N rec0 x1 x2 x4 σ = some (r, σ')) (H : Heap) (locs : List Loc) (hW : WdM D dA h A s σ H locs) (ls : Array Slot) (hl : lv_has ls 5 [(0, .ref (h 0)), (1, .int x1), (2, .int x2), (4, .int x4)]) : W p l e rm_labelled s m args below meth c H locs 0 0 (MQ below (QM D dA h A σ' (some (.int r))) args s 0 0 A) (F0 m 132 ls []) := by
  have hx := C.1.1
  have hb := C.1.2.1
  have hown := C.1.2.2.2.2.1
  have hT := C.1.2.2.2.2.2.1
  unfold M_labelled_132 at hM
  refine lv_aload_n (pc := 132) hx hb dM_labelled_132 rfl (lv_at hl 0 rfl) ?_
  refine lv_iconst (pc := 133) (v := 4) hx hb dM_labelled_133 (by decide) ?_
  obtain ⟨r1, σ2, hr1, hM⟩ := cl_some hM
  refine x_callMv (pc := 134) C hW (kM_blame l D dA h  (4 : Int32) _ hr1) gM_blame_429 ⟨rfl, by decide, by decide, by decide +kernel⟩ ⟨rfl, rfl⟩ ⟨by decide, by decide⟩ ⟨by decide, by decide⟩ (As := [.int (4 : Int32)]) (n := 1) rfl hl.1 rfl (Nat.le_of_ble_eq_true rfl) dM_labelled_134 (fun H locs hW => ?_)
  exact bM_labelled_137 N rec0 C hrec0 _ _ _ _ hM _ _ hW _ (lv_sub hl [0, 1, 2, 3] rfl)
def M_labelled_108 (N : Nat) (t0 : Int32) (σ : MS) : Option (Int32 × MS) :=
  gd (isB t0) (some (t0, σ))
set_option maxHeartbeats 4000000 in
set_option maxRecDepth 100000 in
theorem bM_labelled_108 (N : Nat)  {r : Int32} {σ' : MS} (C : CxM p s m args meth c cM_labelled 5 (some .boolean) D dA A) (t0 : Int32) (σ : MS) (hM : M_labelled_108 N  t0 σ = some (r, σ')) (H : Heap) (locs : List Loc) (hW : WdM D dA h A s σ H locs) (ls : Array Slot) (hl : lv_has ls 5 []) : W p l e rm_labelled s m args below meth c H locs 0 0 (MQ below (QM D dA h A σ' (some (.int r))) args s 0 0 A) (F0 m 108 ls [.int t0]) := by
  have hx := C.1.1
  have hb := C.1.2.1
  have hown := C.1.2.2.2.2.1
  have hT := C.1.2.2.2.2.2.1
  unfold M_labelled_108 at hM
  obtain ⟨hg1, hM⟩ := gd_some hM
  obtain ⟨rfl, rfl⟩ := sm_p hM
  exact x_retMz (pc := 108) C rfl (isB_n hg1) hW dM_labelled_108
def M_labelled_91 (N : Nat) (x1 : Int32) (σ : MS) : Option (Int32 × MS) :=
  bnd (sF σ 9 x1) (fun σ1 => (if (σ1.1 14) = 0 then M_labelled_108 N  (1 : Int32) σ1 else M_labelled_108 N  (0 : Int32) σ1))
set_option maxHeartbeats 4000000 in
set_option maxRecDepth 100000 in
theorem bM_labelled_91 (N : Nat)  {r : Int32} {σ' : MS} (C : CxM p s m args meth c cM_labelled 5 (some .boolean) D dA A) (x1 : Int32) (σ : MS) (hM : M_labelled_91 N  x1 σ = some (r, σ')) (H : Heap) (locs : List Loc) (hW : WdM D dA h A s σ H locs) (ls : Array Slot) (hl : lv_has ls 5 [(0, .ref (h 0)), (1, .int x1)]) : W p l e rm_labelled s m args below meth c H locs 0 0 (MQ below (QM D dA h A σ' (some (.int r))) args s 0 0 A) (F0 m 91 ls []) := by
  have hx := C.1.1
  have hb := C.1.2.1
  have hown := C.1.2.2.2.2.1
  have hT := C.1.2.2.2.2.2.1
  unfold M_labelled_91 at hM
  refine lv_aload_n (pc := 91) hx hb dM_labelled_91 rfl (lv_at hl 0 rfl) ?_
  refine lv_iload_n (pc := 92) hx hb dM_labelled_92 rfl (lv_at hl 1 rfl) ?_
  refine pM (pc := 93) (ty := .int) C hW 19 9 (by decide) q_1676 rfl rfl (by decide +kernel) rfl rfl (st_at dA h _ _) dM_labelled_93 (fun H locs hW => ?_)
  obtain ⟨σ1, eσ1, hM⟩ := bnd_some hM
  rw [← eσ1] at hW
  refine lv_aload_n (pc := 96) hx hb dM_labelled_96 rfl (lv_at hl 0 rfl) ?_
  refine gM (pc := 97) C hW 24 (by decide) q_1681 rfl rfl dM_labelled_97 ?_
  refine lv_if_ne (pc := 100) (tgt := 107) hx hb dM_labelled_100 (by decide) (fun hc => ?_) (fun hc => ?_)
  · replace hM := it_f hc hM
    refine lv_iconst (pc := 107) (v := 0) hx hb dM_labelled_107 (by decide) ?_
    exact bM_labelled_108 N  C  _ _ hM _ _ hW _ (lv_sub hl [] rfl)
  · replace hM := it_t hc hM
    refine lv_iconst (pc := 103) (v := 1) hx hb dM_labelled_103 (by decide) ?_
    refine lv_goto (pc := 104) (tgt := 108) hx hb dM_labelled_104 (by decide) ?_
    exact bM_labelled_108 N  C  _ _ hM _ _ hW _ (lv_sub hl [] rfl)
def M_labelled_68 (N : Nat) (rec0 : MS → Option (Int32 × MS)) (x1 : Int32) (x2 : Int32) (x4 : Int32) (σ : MS) : Option (Int32 × MS) :=
  cl (M_scan N σ) (fun r1 σ2 => (if (σ2.1 10) = (58 : Int32) then (if x4 = 0 then cr (M_register N x1 x2 σ2) (fun r3 => (if 0 ≤ r3 then M_labelled_132 N rec0 x1 x2 x4 σ2 else cr (M_find N x1 x2 σ2) (fun r4 => (if r4 < 0 then M_labelled_137 N rec0 x1 x2 x4 σ2 else M_labelled_132 N rec0 x1 x2 x4 σ2)))) else M_labelled_137 N rec0 x1 x2 x4 σ2) else (if x4 = 0 then M_labelled_91 N  x1 σ2 else cl (M_blame  (1 : Int32) σ2) (fun r5 σ6 => M_labelled_91 N  x1 σ6))))
set_option maxHeartbeats 4000000 in
set_option maxRecDepth 100000 in
theorem bM_labelled_68 (N : Nat) (rec0 : MS → Option (Int32 × MS)) {r : Int32} {σ' : MS} (C : CxM p s m args meth c cM_labelled 5 (some .boolean) D dA A) (hrec0 : ∀  (σ : MS), rec0  σ = some (r, σ') → ∀ (H : Heap) (locs : List Loc), WdM D dA h A s σ H locs → ∀ (ls : Array Slot), lv_has ls 5 [(0, .ref (h 0))] → W p l e rm_labelled s m args below meth c H locs 0 0 (MQ below (QM D dA h A σ' (some (.int r))) args s 0 0 A) (F0 m 0 ls [])) (x1 : Int32) (x2 : Int32) (x4 : Int32) (σ : MS) (hM : M_labelled_68 N rec0 x1 x2 x4 σ = some (r, σ')) (H : Heap) (locs : List Loc) (hW : WdM D dA h A s σ H locs) (ls : Array Slot) (hl : lv_has ls 5 [(0, .ref (h 0)), (1, .int x1), (2, .int x2), (4, .int x4)]) : W p l e rm_labelled s m args below meth c H locs 0 0 (MQ below (QM D dA h A σ' (some (.int r))) args s 0 0 A) (F0 m 68 ls []) := by
  have hx := C.1.1
  have hb := C.1.2.1
  have hown := C.1.2.2.2.2.1
  have hT := C.1.2.2.2.2.2.1
  unfold M_labelled_68 at hM
  refine lv_aload_n (pc := 68) hx hb dM_labelled_68 rfl (lv_at hl 0 rfl) ?_
  obtain ⟨r1, σ2, hr1, hM⟩ := cl_some hM
  refine x_callMv (pc := 69) C hW (kM_scan l D dA h N _ hr1) gM_scan_426 ⟨rfl, by decide, by decide, by decide +kernel⟩ ⟨rfl, rfl⟩ ⟨by decide, by decide⟩ ⟨by decide, by decide⟩ (As := []) (n := 0) rfl hl.1 rfl (Nat.le_of_ble_eq_true rfl) dM_labelled_69 (fun H locs hW => ?_)
  refine lv_aload_n (pc := 72) hx hb dM_labelled_72 rfl (lv_at hl 0 rfl) ?_
  refine gM (pc := 73) C hW 20 (by decide) q_1677 rfl rfl dM_labelled_73 ?_
  refine lv_bipush (pc := 76) (v := 58) hx hb dM_labelled_76 (by decide) ?_
  refine lv_icmp_eq (pc := 78) (tgt := 109) hx hb dM_labelled_78 (by decide) (fun hc => ?_) (fun hc => ?_)
  · replace hM := it_t hc hM
    refine lv_iload (pc := 109) hx hb dM_labelled_109 (lv_at hl 3 rfl) ?_
    refine lv_if_ne (pc := 111) (tgt := 137) hx hb dM_labelled_111 (by decide) (fun hc => ?_) (fun hc => ?_)
    · replace hM := it_f hc hM
      exact bM_labelled_137 N rec0 C hrec0 _ _ _ _ hM _ _ hW _ (lv_sub hl [0, 1, 2, 3] rfl)
    · replace hM := it_t hc hM
      refine lv_aload_n (pc := 114) hx hb dM_labelled_114 rfl (lv_at hl 0 rfl) ?_
      refine lv_iload_n (pc := 115) hx hb dM_labelled_115 rfl (lv_at hl 1 rfl) ?_
      refine lv_iload_n (pc := 116) hx hb dM_labelled_116 rfl (lv_at hl 2 rfl) ?_
      obtain ⟨r3, hr3, hM⟩ := cr_some hM
      refine x_callRi (pc := 117) C hW (kM_register l D dA h N x1 x2 _ hr3) gM_register_486 ⟨rfl, by decide, by decide, by decide +kernel⟩ ⟨rfl, rfl⟩ ⟨by decide, by decide⟩ ⟨by decide, by decide⟩ (As := [.int x1, .int x2]) (n := 2) rfl hl.1 rfl (Nat.le_of_ble_eq_true rfl) dM_labelled_117 ?_
      refine lv_if_ge (pc := 120) (tgt := 132) hx hb dM_labelled_120 (by decide) (fun hc => ?_) (fun hc => ?_)
      · replace hM := it_t hc hM
        exact bM_labelled_132 N rec0 C hrec0 _ _ _ _ hM _ _ hW _ (lv_sub hl [0, 1, 2, 3] rfl)
      · replace hM := it_f hc hM
        refine lv_aload_n (pc := 123) hx hb dM_labelled_123 rfl (lv_at hl 0 rfl) ?_
        refine lv_iload_n (pc := 124) hx hb dM_labelled_124 rfl (lv_at hl 1 rfl) ?_
        refine lv_iload_n (pc := 125) hx hb dM_labelled_125 rfl (lv_at hl 2 rfl) ?_
        obtain ⟨r4, hr4, hM⟩ := cr_some hM
        refine x_callRi (pc := 126) C hW (kM_find l D dA h N x1 x2 _ hr4) gM_find_489 ⟨rfl, by decide, by decide, by decide +kernel⟩ ⟨rfl, rfl⟩ ⟨by decide, by decide⟩ ⟨by decide, by decide⟩ (As := [.int x1, .int x2]) (n := 2) rfl hl.1 rfl (Nat.le_of_ble_eq_true rfl) dM_labelled_126 ?_
        refine lv_if_lt (pc := 129) (tgt := 137) hx hb dM_labelled_129 (by decide) (fun hc => ?_) (fun hc => ?_)
        · replace hM := it_t hc hM
          exact bM_labelled_137 N rec0 C hrec0 _ _ _ _ hM _ _ hW _ (lv_sub hl [0, 1, 2, 3] rfl)
        · replace hM := it_f hc hM
          exact bM_labelled_132 N rec0 C hrec0 _ _ _ _ hM _ _ hW _ (lv_sub hl [0, 1, 2, 3] rfl)
  · replace hM := it_f hc hM
    refine lv_iload (pc := 81) hx hb dM_labelled_81 (lv_at hl 3 rfl) ?_
    refine lv_if_eq (pc := 83) (tgt := 91) hx hb dM_labelled_83 (by decide) (fun hc => ?_) (fun hc => ?_)
    · replace hM := it_t hc hM
      exact bM_labelled_91 N  C  _ _ hM _ _ hW _ (lv_sub hl [0, 1] rfl)
    · replace hM := it_f hc hM
      refine lv_aload_n (pc := 86) hx hb dM_labelled_86 rfl (lv_at hl 0 rfl) ?_
      refine lv_iconst (pc := 87) (v := 1) hx hb dM_labelled_87 (by decide) ?_
      obtain ⟨r5, σ6, hr5, hM⟩ := cl_some hM
      refine x_callMv (pc := 88) C hW (kM_blame l D dA h  (1 : Int32) _ hr5) gM_blame_429 ⟨rfl, by decide, by decide, by decide +kernel⟩ ⟨rfl, rfl⟩ ⟨by decide, by decide⟩ ⟨by decide, by decide⟩ (As := [.int (1 : Int32)]) (n := 1) rfl hl.1 rfl (Nat.le_of_ble_eq_true rfl) dM_labelled_88 (fun H locs hW => ?_)
      exact bM_labelled_91 N  C  _ _ hM _ _ hW _ (lv_sub hl [0, 1] rfl)
def M_labelled_43 (N : Nat) (rec0 : MS → Option (Int32 × MS)) (x1 : Int32) (x2 : Int32) (x3 : Int32) (t0 : Int32) (σ : MS) : Option (Int32 × MS) :=
  (if x3 = 0 then some ((0 : Int32), σ) else (if x3 = (1 : Int32) then M_labelled_68 N rec0 x1 x2 t0 σ else (if t0 = 0 then cl (M_blame  (1 : Int32) σ) (fun r1 σ2 => some ((0 : Int32), σ2)) else M_labelled_68 N rec0 x1 x2 t0 σ)))
set_option maxHeartbeats 4000000 in
set_option maxRecDepth 100000 in
theorem bM_labelled_43 (N : Nat) (rec0 : MS → Option (Int32 × MS)) {r : Int32} {σ' : MS} (C : CxM p s m args meth c cM_labelled 5 (some .boolean) D dA A) (hrec0 : ∀  (σ : MS), rec0  σ = some (r, σ') → ∀ (H : Heap) (locs : List Loc), WdM D dA h A s σ H locs → ∀ (ls : Array Slot), lv_has ls 5 [(0, .ref (h 0))] → W p l e rm_labelled s m args below meth c H locs 0 0 (MQ below (QM D dA h A σ' (some (.int r))) args s 0 0 A) (F0 m 0 ls [])) (x1 : Int32) (x2 : Int32) (x3 : Int32) (t0 : Int32) (σ : MS) (hM : M_labelled_43 N rec0 x1 x2 x3 t0 σ = some (r, σ')) (H : Heap) (locs : List Loc) (hW : WdM D dA h A s σ H locs) (ls : Array Slot) (hl : lv_has ls 5 [(0, .ref (h 0)), (1, .int x1), (2, .int x2), (3, .int x3)]) : W p l e rm_labelled s m args below meth c H locs 0 0 (MQ below (QM D dA h A σ' (some (.int r))) args s 0 0 A) (F0 m 43 ls [.int t0]) := by
  have hx := C.1.1
  have hb := C.1.2.1
  have hown := C.1.2.2.2.2.1
  have hT := C.1.2.2.2.2.2.1
  unfold M_labelled_43 at hM
  refine lv_istore (pc := 43) (lv' := [(4, .int t0), (0, .ref (h 0)), (1, .int x1), (2, .int x2), (3, .int x3)]) hx hb dM_labelled_43 hl (by decide) rfl (fun ls hl => ?_)
  refine lv_iload_n (pc := 45) hx hb dM_labelled_45 rfl (lv_at hl 4 rfl) ?_
  refine lv_if_ne (pc := 46) (tgt := 51) hx hb dM_labelled_46 (by decide) (fun hc => ?_) (fun hc => ?_)
  · replace hM := it_f hc hM
    refine lv_iload_n (pc := 51) hx hb dM_labelled_51 rfl (lv_at hl 4 rfl) ?_
    refine lv_iconst (pc := 52) (v := 1) hx hb dM_labelled_52 (by decide) ?_
    refine lv_icmp_eq (pc := 53) (tgt := 68) hx hb dM_labelled_53 (by decide) (fun hc => ?_) (fun hc => ?_)
    · replace hM := it_t hc hM
      exact bM_labelled_68 N rec0 C hrec0 _ _ _ _ hM _ _ hW _ (lv_sub hl [1, 2, 3, 0] rfl)
    · replace hM := it_f hc hM
      refine lv_iload (pc := 56) hx hb dM_labelled_56 (lv_at hl 0 rfl) ?_
      refine lv_if_ne (pc := 58) (tgt := 68) hx hb dM_labelled_58 (by decide) (fun hc => ?_) (fun hc => ?_)
      · replace hM := it_f hc hM
        exact bM_labelled_68 N rec0 C hrec0 _ _ _ _ hM _ _ hW _ (lv_sub hl [1, 2, 3, 0] rfl)
      · replace hM := it_t hc hM
        refine lv_aload_n (pc := 61) hx hb dM_labelled_61 rfl (lv_at hl 1 rfl) ?_
        refine lv_iconst (pc := 62) (v := 1) hx hb dM_labelled_62 (by decide) ?_
        obtain ⟨r1, σ2, hr1, hM⟩ := cl_some hM
        refine x_callMv (pc := 63) C hW (kM_blame l D dA h  (1 : Int32) _ hr1) gM_blame_429 ⟨rfl, by decide, by decide, by decide +kernel⟩ ⟨rfl, rfl⟩ ⟨by decide, by decide⟩ ⟨by decide, by decide⟩ (As := [.int (1 : Int32)]) (n := 1) rfl hl.1 rfl (Nat.le_of_ble_eq_true rfl) dM_labelled_63 (fun H locs hW => ?_)
        refine lv_iconst (pc := 66) (v := 0) hx hb dM_labelled_66 (by decide) ?_
        obtain ⟨rfl, rfl⟩ := sm_p hM
        exact x_retMz (pc := 67) C rfl rfl hW dM_labelled_67
  · replace hM := it_t hc hM
    refine lv_iconst (pc := 49) (v := 0) hx hb dM_labelled_49 (by decide) ?_
    obtain ⟨rfl, rfl⟩ := sm_p hM
    exact x_retMz (pc := 50) C rfl rfl hW dM_labelled_50
def M_labelled_42 (N : Nat) (rec0 : MS → Option (Int32 × MS)) (x1 : Int32) (x2 : Int32) (x3 : Int32) (σ : MS) : Option (Int32 × MS) :=
  M_labelled_43 N rec0 x1 x2 x3 (0 : Int32) σ
set_option maxHeartbeats 4000000 in
set_option maxRecDepth 100000 in
theorem bM_labelled_42 (N : Nat) (rec0 : MS → Option (Int32 × MS)) {r : Int32} {σ' : MS} (C : CxM p s m args meth c cM_labelled 5 (some .boolean) D dA A) (hrec0 : ∀  (σ : MS), rec0  σ = some (r, σ') → ∀ (H : Heap) (locs : List Loc), WdM D dA h A s σ H locs → ∀ (ls : Array Slot), lv_has ls 5 [(0, .ref (h 0))] → W p l e rm_labelled s m args below meth c H locs 0 0 (MQ below (QM D dA h A σ' (some (.int r))) args s 0 0 A) (F0 m 0 ls [])) (x1 : Int32) (x2 : Int32) (x3 : Int32) (σ : MS) (hM : M_labelled_42 N rec0 x1 x2 x3 σ = some (r, σ')) (H : Heap) (locs : List Loc) (hW : WdM D dA h A s σ H locs) (ls : Array Slot) (hl : lv_has ls 5 [(0, .ref (h 0)), (1, .int x1), (2, .int x2), (3, .int x3)]) : W p l e rm_labelled s m args below meth c H locs 0 0 (MQ below (QM D dA h A σ' (some (.int r))) args s 0 0 A) (F0 m 42 ls []) := by
  have hx := C.1.1
  have hb := C.1.2.1
  have hown := C.1.2.2.2.2.1
  have hT := C.1.2.2.2.2.2.1
  unfold M_labelled_42 at hM
  refine lv_iconst (pc := 42) (v := 0) hx hb dM_labelled_42 (by decide) ?_
  exact bM_labelled_43 N rec0 C hrec0 _ _ _ _ _ hM _ _ hW _ (lv_sub hl [0, 1, 2, 3] rfl)
def M_labelled_0 (N : Nat)  : Nat → MS → Option (Int32 × MS)
  | 0 => fun _ => none
  | n + 1 => fun σ => (if (σ.1 14) = 0 then cl (M_scan N σ) (fun r1 σ2 => (if (σ2.1 10) = (2 : Int32) then (if ((σ2.1 12) - (σ2.1 11)) = (1 : Int32) then M_labelled_43 N (M_labelled_0 N  n) (σ2.1 11) (σ2.1 12) (σ2.1 10) (1 : Int32) σ2 else M_labelled_42 N (M_labelled_0 N  n) (σ2.1 11) (σ2.1 12) (σ2.1 10) σ2) else M_labelled_42 N (M_labelled_0 N  n) (σ2.1 11) (σ2.1 12) (σ2.1 10) σ2)) else some ((0 : Int32), σ))
set_option maxHeartbeats 4000000 in
set_option maxRecDepth 100000 in
theorem bM_labelled_0 (N : Nat)  {r : Int32} {σ' : MS} (C : CxM p s m args meth c cM_labelled 5 (some .boolean) D dA A) : ∀ (n : Nat) (σ : MS), M_labelled_0 N  n  σ = some (r, σ') → ∀ (H : Heap) (locs : List Loc), WdM D dA h A s σ H locs → ∀ (ls : Array Slot), lv_has ls 5 [(0, .ref (h 0))] → W p l e rm_labelled s m args below meth c H locs 0 0 (MQ below (QM D dA h A σ' (some (.int r))) args s 0 0 A) (F0 m 0 ls []) := by
  have hx := C.1.1
  have hb := C.1.2.1
  have hown := C.1.2.2.2.2.1
  have hT := C.1.2.2.2.2.2.1
  intro n
  induction n with
  | zero => intro σ hM; cases hM
  | succ n hrec0 =>
    intro σ hM H locs hW ls hl
    rw [M_labelled_0] at hM
    refine lv_aload_n (pc := 0) hx hb dM_labelled_0 rfl (lv_at hl 0 rfl) ?_
    refine gM (pc := 1) C hW 24 (by decide) q_1681 rfl rfl dM_labelled_1 ?_
    refine lv_if_ne (pc := 4) (tgt := 169) hx hb dM_labelled_4 (by decide) (fun hc => ?_) (fun hc => ?_)
    · replace hM := it_f hc hM
      refine lv_iconst (pc := 169) (v := 0) hx hb dM_labelled_169 (by decide) ?_
      obtain ⟨rfl, rfl⟩ := sm_p hM
      exact x_retMz (pc := 170) C rfl rfl hW dM_labelled_170
    · replace hM := it_t hc hM
      refine lv_aload_n (pc := 7) hx hb dM_labelled_7 rfl (lv_at hl 0 rfl) ?_
      obtain ⟨r1, σ2, hr1, hM⟩ := cl_some hM
      refine x_callMv (pc := 8) C hW (kM_scan l D dA h N _ hr1) gM_scan_426 ⟨rfl, by decide, by decide, by decide +kernel⟩ ⟨rfl, rfl⟩ ⟨by decide, by decide⟩ ⟨by decide, by decide⟩ (As := []) (n := 0) rfl hl.1 rfl (Nat.le_of_ble_eq_true rfl) dM_labelled_8 (fun H locs hW => ?_)
      refine lv_aload_n (pc := 11) hx hb dM_labelled_11 rfl (lv_at hl 0 rfl) ?_
      refine gM (pc := 12) C hW 21 (by decide) q_1678 rfl rfl dM_labelled_12 ?_
      refine lv_istore_n (pc := 15) (lv' := [(1, .int (σ2.1 11)), (0, .ref (h 0))]) hx hb dM_labelled_15 rfl hl (by decide) rfl (fun ls hl => ?_)
      refine lv_aload_n (pc := 16) hx hb dM_labelled_16 rfl (lv_at hl 1 rfl) ?_
      refine gM (pc := 17) C hW 22 (by decide) q_1679 rfl rfl dM_labelled_17 ?_
      refine lv_istore_n (pc := 20) (lv' := [(2, .int (σ2.1 12)), (1, .int (σ2.1 11)), (0, .ref (h 0))]) hx hb dM_labelled_20 rfl hl (by decide) rfl (fun ls hl => ?_)
      refine lv_aload_n (pc := 21) hx hb dM_labelled_21 rfl (lv_at hl 2 rfl) ?_
      refine gM (pc := 22) C hW 20 (by decide) q_1677 rfl rfl dM_labelled_22 ?_
      refine lv_istore_n (pc := 25) (lv' := [(3, .int (σ2.1 10)), (2, .int (σ2.1 12)), (1, .int (σ2.1 11)), (0, .ref (h 0))]) hx hb dM_labelled_25 rfl hl (by decide) rfl (fun ls hl => ?_)
      refine lv_iload_n (pc := 26) hx hb dM_labelled_26 rfl (lv_at hl 0 rfl) ?_
      refine lv_iconst (pc := 27) (v := 2) hx hb dM_labelled_27 (by decide) ?_
      refine lv_icmp_ne (pc := 28) (tgt := 42) hx hb dM_labelled_28 (by decide) (fun hc => ?_) (fun hc => ?_)
      · replace hM := it_f hc hM
        exact bM_labelled_42 N _ C hrec0 _ _ _ _ hM _ _ hW _ (lv_sub hl [3, 2, 1, 0] rfl)
      · replace hM := it_t hc hM
        refine lv_iload_n (pc := 31) hx hb dM_labelled_31 rfl (lv_at hl 1 rfl) ?_
        refine lv_iload_n (pc := 32) hx hb dM_labelled_32 rfl (lv_at hl 2 rfl) ?_
        refine lv_isub (pc := 33) hx hb dM_labelled_33 ?_
        refine lv_iconst (pc := 34) (v := 1) hx hb dM_labelled_34 (by decide) ?_
        refine lv_icmp_ne (pc := 35) (tgt := 42) hx hb dM_labelled_35 (by decide) (fun hc => ?_) (fun hc => ?_)
        · replace hM := it_f hc hM
          exact bM_labelled_42 N _ C hrec0 _ _ _ _ hM _ _ hW _ (lv_sub hl [3, 2, 1, 0] rfl)
        · replace hM := it_t hc hM
          refine lv_iconst (pc := 38) (v := 1) hx hb dM_labelled_38 (by decide) ?_
          refine lv_goto (pc := 39) (tgt := 43) hx hb dM_labelled_39 (by decide) ?_
          exact bM_labelled_43 N _ C hrec0 _ _ _ _ _ hM _ _ hW _ (lv_sub hl [3, 2, 1, 0] rfl)
def M_labelled (N : Nat)  (σ : MS) : Option (Int32 × MS) := M_labelled_0 N N  σ
theorem kM_labelled (l : Launch) (D : va_G) (dA : Nat → ClassId) (h : Nat → Nat) (N : Nat)  (σ : MS) {r : Int32} {σ' : MS} (hM : M_labelled N  σ = some (r, σ')) : KM l D dA yM_labelled cM_labelled 5 (some .boolean) rm_labelled h σ [] (some (.int r)) σ' := x_enterM rfl (Nat.le_of_ble_eq_true rfl) (fun p e s m args below meth c A C hW ls hl => bM_labelled_0 N C N  σ hM s.heap [] hW ls hl)
def M_readAll_201 (N : Nat)  (σ : MS) : Option (Int32 × MS) :=
  some ((0 : Int32), σ)
set_option maxHeartbeats 4000000 in
set_option maxRecDepth 100000 in
theorem bM_readAll_201 (N : Nat)  {r : Int32} {σ' : MS} (C : CxM p s m args meth c cM_readAll 4 none D dA A)  (σ : MS) (hM : M_readAll_201 N   σ = some (r, σ')) (H : Heap) (locs : List Loc) (hW : WdM D dA h A s σ H locs) (ls : Array Slot) (hl : lv_has ls 4 []) : W p l e rm_readAll s m args below meth c H locs 0 0 (MQ below (QM D dA h A σ' none) args s 0 0 A) (F0 m 201 ls []) := by
  have hx := C.1.1
  have hb := C.1.2.1
  have hown := C.1.2.2.2.2.1
  have hT := C.1.2.2.2.2.2.1
  unfold M_readAll_201 at hM
  obtain ⟨rfl, rfl⟩ := sm_p hM
  exact x_retMv (pc := 201) C rfl hW dM_readAll_201
def M_readAll_152 (N : Nat) (rec25 : MS → Option (Int32 × MS)) : Nat → MS → Option (Int32 × MS)
  | 0 => fun _ => none
  | n + 1 => fun σ => cr (M_charAt  (σ.1 9) σ) (fun r1 => (if r1 = (10 : Int32) then bnd (sF σ 9 ((σ.1 9) + (1 : Int32))) (fun σ2 => bnd (sF σ2 15 ((σ2.1 15) + (1 : Int32))) (fun σ3 => rec25 σ3)) else bnd (sF σ 9 ((σ.1 9) + (1 : Int32))) (fun σ4 => (M_readAll_152 N rec25 n) σ4)))
set_option maxHeartbeats 4000000 in
set_option maxRecDepth 100000 in
theorem bM_readAll_152 (N : Nat) (rec25 : MS → Option (Int32 × MS)) {r : Int32} {σ' : MS} (C : CxM p s m args meth c cM_readAll 4 none D dA A) (hrec25 : ∀  (σ : MS), rec25  σ = some (r, σ') → ∀ (H : Heap) (locs : List Loc), WdM D dA h A s σ H locs → ∀ (ls : Array Slot), lv_has ls 4 [(0, .ref (h 0))] → W p l e rm_readAll s m args below meth c H locs 0 0 (MQ below (QM D dA h A σ' none) args s 0 0 A) (F0 m 25 ls [])) : ∀ (n : Nat) (σ : MS), M_readAll_152 N rec25 n  σ = some (r, σ') → ∀ (H : Heap) (locs : List Loc), WdM D dA h A s σ H locs → ∀ (ls : Array Slot), lv_has ls 4 [(0, .ref (h 0))] → W p l e rm_readAll s m args below meth c H locs 0 0 (MQ below (QM D dA h A σ' none) args s 0 0 A) (F0 m 152 ls []) := by
  have hx := C.1.1
  have hb := C.1.2.1
  have hown := C.1.2.2.2.2.1
  have hT := C.1.2.2.2.2.2.1
  intro n
  induction n with
  | zero => intro σ hM; cases hM
  | succ n hrec152 =>
    intro σ hM H locs hW ls hl
    rw [M_readAll_152] at hM
    refine lv_aload_n (pc := 152) hx hb dM_readAll_152 rfl (lv_at hl 0 rfl) ?_
    refine lv_aload_n (pc := 153) hx hb dM_readAll_153 rfl (lv_at hl 0 rfl) ?_
    refine gM (pc := 154) C hW 19 (by decide) q_1676 rfl rfl dM_readAll_154 ?_
    obtain ⟨r1, hr1, hM⟩ := cr_some hM
    refine x_callRi (pc := 157) C hW (kM_charAt l D dA h  (σ.1 9) _ hr1) gM_charAt_368 ⟨rfl, by decide, by decide, by decide +kernel⟩ ⟨rfl, rfl⟩ ⟨by decide, by decide⟩ ⟨by decide, by decide⟩ (As := [.int (σ.1 9)]) (n := 1) rfl hl.1 rfl (Nat.le_of_ble_eq_true rfl) dM_readAll_157 ?_
    refine lv_bipush (pc := 160) (v := 10) hx hb dM_readAll_160 (by decide) ?_
    refine lv_icmp_eq (pc := 162) (tgt := 178) hx hb dM_readAll_162 (by decide) (fun hc => ?_) (fun hc => ?_)
    · replace hM := it_t hc hM
      refine lv_aload_n (pc := 178) hx hb dM_readAll_178 rfl (lv_at hl 0 rfl) ?_
      refine lv_dup (pc := 179) hx hb dM_readAll_179 rfl ?_
      refine gM (pc := 180) C hW 19 (by decide) q_1676 rfl rfl dM_readAll_180 ?_
      refine lv_iconst (pc := 183) (v := 1) hx hb dM_readAll_183 (by decide) ?_
      refine lv_iadd (pc := 184) hx hb dM_readAll_184 ?_
      refine pM (pc := 185) (ty := .int) C hW 19 9 (by decide) q_1676 rfl rfl (by decide +kernel) rfl rfl (st_at dA h _ _) dM_readAll_185 (fun H locs hW => ?_)
      obtain ⟨σ2, eσ2, hM⟩ := bnd_some hM
      rw [← eσ2] at hW
      refine lv_aload_n (pc := 188) hx hb dM_readAll_188 rfl (lv_at hl 0 rfl) ?_
      refine lv_dup (pc := 189) hx hb dM_readAll_189 rfl ?_
      refine gM (pc := 190) C hW 25 (by decide) q_1682 rfl rfl dM_readAll_190 ?_
      refine lv_iconst (pc := 193) (v := 1) hx hb dM_readAll_193 (by decide) ?_
      refine lv_iadd (pc := 194) hx hb dM_readAll_194 ?_
      refine pM (pc := 195) (ty := .int) C hW 25 15 (by decide) q_1682 rfl rfl (by decide +kernel) rfl rfl (st_line dA h _ _) dM_readAll_195 (fun H locs hW => ?_)
      obtain ⟨σ3, eσ3, hM⟩ := bnd_some hM
      rw [← eσ3] at hW
      refine lv_goto (pc := 198) (tgt := 25) hx hb dM_readAll_198 (by decide) ?_
      exact hrec25  _ hM _ _ hW _ (lv_sub hl [0] rfl)
    · replace hM := it_f hc hM
      refine lv_aload_n (pc := 165) hx hb dM_readAll_165 rfl (lv_at hl 0 rfl) ?_
      refine lv_dup (pc := 166) hx hb dM_readAll_166 rfl ?_
      refine gM (pc := 167) C hW 19 (by decide) q_1676 rfl rfl dM_readAll_167 ?_
      refine lv_iconst (pc := 170) (v := 1) hx hb dM_readAll_170 (by decide) ?_
      refine lv_iadd (pc := 171) hx hb dM_readAll_171 ?_
      refine pM (pc := 172) (ty := .int) C hW 19 9 (by decide) q_1676 rfl rfl (by decide +kernel) rfl rfl (st_at dA h _ _) dM_readAll_172 (fun H locs hW => ?_)
      obtain ⟨σ4, eσ4, hM⟩ := bnd_some hM
      rw [← eσ4] at hW
      refine lv_goto (pc := 175) (tgt := 152) hx hb dM_readAll_175 (by decide) ?_
      exact hrec152  _ hM _ _ hW _ (lv_sub hl [0] rfl)
def M_readAll_118 (N : Nat) (rec25 : MS → Option (Int32 × MS)) (t0 : Int32) (σ : MS) : Option (Int32 × MS) :=
  (if t0 < 0 then M_readAll_152 N rec25 N σ else bnd (sF σ 4 ((σ.1 4) + (1 : Int32))) (fun σ1 => gd (inB t0 1030) ((if (σ1.2 4 t0.toNatClampNeg) = 0 then gd (inB t0 1030) (bnd (sA σ1 4 t0.toNatClampNeg (σ1.1 20)) (fun σ4 => M_readAll_152 N rec25 N σ4)) else M_readAll_152 N rec25 N σ1))))
set_option maxHeartbeats 4000000 in
set_option maxRecDepth 100000 in
theorem bM_readAll_118 (N : Nat) (rec25 : MS → Option (Int32 × MS)) {r : Int32} {σ' : MS} (C : CxM p s m args meth c cM_readAll 4 none D dA A) (hrec25 : ∀  (σ : MS), rec25  σ = some (r, σ') → ∀ (H : Heap) (locs : List Loc), WdM D dA h A s σ H locs → ∀ (ls : Array Slot), lv_has ls 4 [(0, .ref (h 0))] → W p l e rm_readAll s m args below meth c H locs 0 0 (MQ below (QM D dA h A σ' none) args s 0 0 A) (F0 m 25 ls [])) (t0 : Int32) (σ : MS) (hM : M_readAll_118 N rec25 t0 σ = some (r, σ')) (H : Heap) (locs : List Loc) (hW : WdM D dA h A s σ H locs) (ls : Array Slot) (hl : lv_has ls 4 [(0, .ref (h 0))]) : W p l e rm_readAll s m args below meth c H locs 0 0 (MQ below (QM D dA h A σ' none) args s 0 0 A) (F0 m 118 ls [.int t0]) := by
  have hx := C.1.1
  have hb := C.1.2.1
  have hown := C.1.2.2.2.2.1
  have hT := C.1.2.2.2.2.2.1
  unfold M_readAll_118 at hM
  refine lv_istore_n (pc := 118) (lv' := [(3, .int t0), (0, .ref (h 0))]) hx hb dM_readAll_118 rfl hl (by decide) rfl (fun ls hl => ?_)
  refine lv_iload_n (pc := 119) hx hb dM_readAll_119 rfl (lv_at hl 0 rfl) ?_
  refine lv_if_lt (pc := 120) (tgt := 152) hx hb dM_readAll_120 (by decide) (fun hc => ?_) (fun hc => ?_)
  · replace hM := it_t hc hM
    exact bM_readAll_152 N rec25 C hrec25 N  _ hM _ _ hW _ (lv_sub hl [1] rfl)
  · replace hM := it_f hc hM
    refine lv_aload_n (pc := 123) hx hb dM_readAll_123 rfl (lv_at hl 1 rfl) ?_
    refine lv_dup (pc := 124) hx hb dM_readAll_124 rfl ?_
    refine gM (pc := 125) C hW 9 (by decide) q_1666 rfl rfl dM_readAll_125 ?_
    refine lv_iconst (pc := 128) (v := 1) hx hb dM_readAll_128 (by decide) ?_
    refine lv_iadd (pc := 129) hx hb dM_readAll_129 ?_
    refine pM (pc := 130) (ty := .int) C hW 9 4 (by decide) q_1666 rfl rfl (by decide +kernel) rfl rfl (st_statements dA h _ _) dM_readAll_130 (fun H locs hW => ?_)
    obtain ⟨σ1, eσ1, hM⟩ := bnd_some hM
    rw [← eσ1] at hW
    refine lv_aload_n (pc := 133) hx hb dM_readAll_133 rfl (lv_at hl 1 rfl) ?_
    refine gM (pc := 134) C hW 12 (by decide) q_1669 rfl rfl dM_readAll_134 ?_
    refine lv_iload_n (pc := 137) hx hb dM_readAll_137 rfl (lv_at hl 0 rfl) ?_
    obtain ⟨hg2, hM⟩ := gd_some hM
    refine x_ldI (pc := 138) C hW 8 rfl hg2 dM_readAll_138 ?_
    refine lv_if_ne (pc := 139) (tgt := 152) hx hb dM_readAll_139 (by decide) (fun hc => ?_) (fun hc => ?_)
    · replace hM := it_f hc hM
      exact bM_readAll_152 N rec25 C hrec25 N  _ hM _ _ hW _ (lv_sub hl [1] rfl)
    · replace hM := it_t hc hM
      refine lv_aload_n (pc := 142) hx hb dM_readAll_142 rfl (lv_at hl 1 rfl) ?_
      refine gM (pc := 143) C hW 12 (by decide) q_1669 rfl rfl dM_readAll_143 ?_
      refine lv_iload_n (pc := 146) hx hb dM_readAll_146 rfl (lv_at hl 0 rfl) ?_
      refine lv_aload_n (pc := 147) hx hb dM_readAll_147 rfl (lv_at hl 1 rfl) ?_
      refine gM (pc := 148) C hW 30 (by decide) q_1687 rfl rfl dM_readAll_148 ?_
      obtain ⟨hg3, hM⟩ := gd_some hM
      refine x_stI (pc := 151) C hW 8 4 rfl hg3 (sa_bytes dA h _ _ _) dM_readAll_151 (fun H locs hW => ?_)
      obtain ⟨σ4, eσ4, hM⟩ := bnd_some hM
      rw [← eσ4] at hW
      exact bM_readAll_152 N rec25 C hrec25 N  _ hM _ _ hW _ (lv_sub hl [1] rfl)
def M_readAll_25 (N : Nat)  : Nat → MS → Option (Int32 × MS)
  | 0 => fun _ => none
  | n + 1 => fun σ => (if (σ.1 14) = 0 then (if (σ.1 2) ≤ (σ.1 9) then M_readAll_201 N  σ else cl (M_labelled N σ) (fun r1 σ2 => (if r1 = 0 then M_readAll_152 N (M_readAll_25 N  n) N σ2 else bnd (sF σ2 18 (σ2.1 4)) (fun σ3 => gd (inB (σ3.1 18) 1030) (bnd (sA σ3 2 (σ3.1 18).toNatClampNeg ((σ3.1 9) ||| ((σ3.1 16) <<< ((15 : Int32) &&& 31)))) (fun σ5 => gd (inB (σ5.1 18) 1030) (bnd (sA σ5 4 (σ5.1 18).toNatClampNeg (0 : Int32)) (fun σ7 => cl (M_statement N (σ3.1 9) (0 : Int32) σ7) (fun r8 σ9 => (if (σ7.1 16) = (σ9.1 16) then M_readAll_118 N (M_readAll_25 N  n) (σ9.1 18) σ9 else M_readAll_118 N (M_readAll_25 N  n) (-1 : Int32) σ9)))))))))) else M_readAll_201 N  σ)
set_option maxHeartbeats 4000000 in
set_option maxRecDepth 100000 in
theorem bM_readAll_25 (N : Nat)  {r : Int32} {σ' : MS} (C : CxM p s m args meth c cM_readAll 4 none D dA A) : ∀ (n : Nat) (σ : MS), M_readAll_25 N  n  σ = some (r, σ') → ∀ (H : Heap) (locs : List Loc), WdM D dA h A s σ H locs → ∀ (ls : Array Slot), lv_has ls 4 [(0, .ref (h 0))] → W p l e rm_readAll s m args below meth c H locs 0 0 (MQ below (QM D dA h A σ' none) args s 0 0 A) (F0 m 25 ls []) := by
  have hx := C.1.1
  have hb := C.1.2.1
  have hown := C.1.2.2.2.2.1
  have hT := C.1.2.2.2.2.2.1
  intro n
  induction n with
  | zero => intro σ hM; cases hM
  | succ n hrec25 =>
    intro σ hM H locs hW ls hl
    rw [M_readAll_25] at hM
    refine lv_aload_n (pc := 25) hx hb dM_readAll_25 rfl (lv_at hl 0 rfl) ?_
    refine gM (pc := 26) C hW 24 (by decide) q_1681 rfl rfl dM_readAll_26 ?_
    refine lv_if_ne (pc := 29) (tgt := 201) hx hb dM_readAll_29 (by decide) (fun hc => ?_) (fun hc => ?_)
    · replace hM := it_f hc hM
      exact bM_readAll_201 N  C   _ hM _ _ hW _ (lv_sub hl [] rfl)
    · replace hM := it_t hc hM
      refine lv_aload_n (pc := 32) hx hb dM_readAll_32 rfl (lv_at hl 0 rfl) ?_
      refine gM (pc := 33) C hW 19 (by decide) q_1676 rfl rfl dM_readAll_33 ?_
      refine lv_aload_n (pc := 36) hx hb dM_readAll_36 rfl (lv_at hl 0 rfl) ?_
      refine gM (pc := 37) C hW 7 (by decide) q_1664 rfl rfl dM_readAll_37 ?_
      refine lv_icmp_ge (pc := 40) (tgt := 201) hx hb dM_readAll_40 (by decide) (fun hc => ?_) (fun hc => ?_)
      · replace hM := it_t hc hM
        exact bM_readAll_201 N  C   _ hM _ _ hW _ (lv_sub hl [] rfl)
      · replace hM := it_f hc hM
        refine lv_aload_n (pc := 43) hx hb dM_readAll_43 rfl (lv_at hl 0 rfl) ?_
        obtain ⟨r1, σ2, hr1, hM⟩ := cl_some hM
        refine x_callMi (pc := 44) C hW (kM_labelled l D dA h N _ hr1) gM_labelled_685 ⟨rfl, by decide, by decide, by decide +kernel⟩ ⟨rfl, rfl⟩ ⟨by decide, by decide⟩ ⟨by decide, by decide⟩ (As := []) (n := 0) rfl hl.1 rfl (Nat.le_of_ble_eq_true rfl) dM_readAll_44 (fun H locs hW => ?_)
        refine lv_if_eq (pc := 47) (tgt := 152) hx hb dM_readAll_47 (by decide) (fun hc => ?_) (fun hc => ?_)
        · replace hM := it_t hc hM
          exact bM_readAll_152 N _ C hrec25 N  _ hM _ _ hW _ (lv_sub hl [0] rfl)
        · replace hM := it_f hc hM
          refine lv_aload_n (pc := 50) hx hb dM_readAll_50 rfl (lv_at hl 0 rfl) ?_
          refine lv_aload_n (pc := 51) hx hb dM_readAll_51 rfl (lv_at hl 0 rfl) ?_
          refine gM (pc := 52) C hW 9 (by decide) q_1666 rfl rfl dM_readAll_52 ?_
          refine pM (pc := 55) (ty := .int) C hW 28 18 (by decide) q_1685 rfl rfl (by decide +kernel) rfl rfl (st_current dA h _ _) dM_readAll_55 (fun H locs hW => ?_)
          obtain ⟨σ3, eσ3, hM⟩ := bnd_some hM
          rw [← eσ3] at hW
          refine lv_aload_n (pc := 58) hx hb dM_readAll_58 rfl (lv_at hl 0 rfl) ?_
          refine gM (pc := 59) C hW 19 (by decide) q_1676 rfl rfl dM_readAll_59 ?_
          refine lv_istore_n (pc := 62) (lv' := [(1, .int (σ3.1 9)), (0, .ref (h 0))]) hx hb dM_readAll_62 rfl hl (by decide) rfl (fun ls hl => ?_)
          refine lv_aload_n (pc := 63) hx hb dM_readAll_63 rfl (lv_at hl 1 rfl) ?_
          refine gM (pc := 64) C hW 10 (by decide) q_1667 rfl rfl dM_readAll_64 ?_
          refine lv_aload_n (pc := 67) hx hb dM_readAll_67 rfl (lv_at hl 1 rfl) ?_
          refine gM (pc := 68) C hW 28 (by decide) q_1685 rfl rfl dM_readAll_68 ?_
          refine lv_iload_n (pc := 71) hx hb dM_readAll_71 rfl (lv_at hl 0 rfl) ?_
          refine lv_aload_n (pc := 72) hx hb dM_readAll_72 rfl (lv_at hl 1 rfl) ?_
          refine gM (pc := 73) C hW 26 (by decide) q_1683 rfl rfl dM_readAll_73 ?_
          refine lv_bipush (pc := 76) (v := 15) hx hb dM_readAll_76 (by decide) ?_
          refine lv_ishl (pc := 78) hx hb dM_readAll_78 ?_
          refine lv_ior (pc := 79) hx hb dM_readAll_79 ?_
          obtain ⟨hg4, hM⟩ := gd_some hM
          refine x_stI (pc := 80) C hW 6 2 rfl hg4 (sa_place dA h _ _ _) dM_readAll_80 (fun H locs hW => ?_)
          obtain ⟨σ5, eσ5, hM⟩ := bnd_some hM
          rw [← eσ5] at hW
          refine lv_aload_n (pc := 81) hx hb dM_readAll_81 rfl (lv_at hl 1 rfl) ?_
          refine gM (pc := 82) C hW 12 (by decide) q_1669 rfl rfl dM_readAll_82 ?_
          refine lv_aload_n (pc := 85) hx hb dM_readAll_85 rfl (lv_at hl 1 rfl) ?_
          refine gM (pc := 86) C hW 28 (by decide) q_1685 rfl rfl dM_readAll_86 ?_
          refine lv_iconst (pc := 89) (v := 0) hx hb dM_readAll_89 (by decide) ?_
          obtain ⟨hg6, hM⟩ := gd_some hM
          refine x_stI (pc := 90) C hW 8 4 rfl hg6 (sa_bytes dA h _ _ _) dM_readAll_90 (fun H locs hW => ?_)
          obtain ⟨σ7, eσ7, hM⟩ := bnd_some hM
          rw [← eσ7] at hW
          refine lv_aload_n (pc := 91) hx hb dM_readAll_91 rfl (lv_at hl 1 rfl) ?_
          refine gM (pc := 92) C hW 26 (by decide) q_1683 rfl rfl dM_readAll_92 ?_
          refine lv_istore_n (pc := 95) (lv' := [(2, .int (σ7.1 16)), (1, .int (σ3.1 9)), (0, .ref (h 0))]) hx hb dM_readAll_95 rfl hl (by decide) rfl (fun ls hl => ?_)
          refine lv_aload_n (pc := 96) hx hb dM_readAll_96 rfl (lv_at hl 2 rfl) ?_
          refine lv_iload_n (pc := 97) hx hb dM_readAll_97 rfl (lv_at hl 1 rfl) ?_
          refine lv_iconst (pc := 98) (v := 0) hx hb dM_readAll_98 (by decide) ?_
          obtain ⟨r8, σ9, hr8, hM⟩ := cl_some hM
          refine x_callMv (pc := 99) C hW (kM_statement l D dA h N (σ3.1 9) (0 : Int32) _ hr8) gM_statement_688 ⟨rfl, by decide, by decide, by decide +kernel⟩ ⟨rfl, rfl⟩ ⟨by decide, by decide⟩ ⟨by decide, by decide⟩ (As := [.int (σ3.1 9), .int (0 : Int32)]) (n := 2) rfl hl.1 rfl (Nat.le_of_ble_eq_true rfl) dM_readAll_99 (fun H locs hW => ?_)
          refine lv_iload_n (pc := 102) hx hb dM_readAll_102 rfl (lv_at hl 0 rfl) ?_
          refine lv_aload_n (pc := 103) hx hb dM_readAll_103 rfl (lv_at hl 2 rfl) ?_
          refine gM (pc := 104) C hW 26 (by decide) q_1683 rfl rfl dM_readAll_104 ?_
          refine lv_icmp_ne (pc := 107) (tgt := 117) hx hb dM_readAll_107 (by decide) (fun hc => ?_) (fun hc => ?_)
          · replace hM := it_f hc hM
            refine lv_iconst (pc := 117) (v := -1) hx hb dM_readAll_117 (by decide) ?_
            exact bM_readAll_118 N _ C hrec25 _ _ hM _ _ hW _ (lv_sub hl [2] rfl)
          · replace hM := it_t hc hM
            refine lv_aload_n (pc := 110) hx hb dM_readAll_110 rfl (lv_at hl 2 rfl) ?_
            refine gM (pc := 111) C hW 28 (by decide) q_1685 rfl rfl dM_readAll_111 ?_
            refine lv_goto (pc := 114) (tgt := 118) hx hb dM_readAll_114 (by decide) ?_
            exact bM_readAll_118 N _ C hrec25 _ _ hM _ _ hW _ (lv_sub hl [2] rfl)
def M_readAll (N : Nat)  (σ : MS) : Option (Int32 × MS) :=
  bnd (sF σ 9 (0 : Int32)) (fun σ1 => bnd (sF σ1 15 (1 : Int32)) (fun σ2 => bnd (sF σ2 16 (0 : Int32)) (fun σ3 => bnd (sF σ3 4 (0 : Int32)) (fun σ4 => bnd (sF σ4 5 (0 : Int32)) (fun σ5 => M_readAll_25 N  N σ5)))))
set_option maxHeartbeats 4000000 in
set_option maxRecDepth 100000 in
theorem bM_readAll_0 (N : Nat)  {r : Int32} {σ' : MS} (C : CxM p s m args meth c cM_readAll 4 none D dA A)  (σ : MS) (hM : M_readAll N   σ = some (r, σ')) (H : Heap) (locs : List Loc) (hW : WdM D dA h A s σ H locs) (ls : Array Slot) (hl : lv_has ls 4 [(0, .ref (h 0))]) : W p l e rm_readAll s m args below meth c H locs 0 0 (MQ below (QM D dA h A σ' none) args s 0 0 A) (F0 m 0 ls []) := by
  have hx := C.1.1
  have hb := C.1.2.1
  have hown := C.1.2.2.2.2.1
  have hT := C.1.2.2.2.2.2.1
  unfold M_readAll at hM
  refine lv_aload_n (pc := 0) hx hb dM_readAll_0 rfl (lv_at hl 0 rfl) ?_
  refine lv_iconst (pc := 1) (v := 0) hx hb dM_readAll_1 (by decide) ?_
  refine pM (pc := 2) (ty := .int) C hW 19 9 (by decide) q_1676 rfl rfl (by decide +kernel) rfl rfl (st_at dA h _ _) dM_readAll_2 (fun H locs hW => ?_)
  obtain ⟨σ1, eσ1, hM⟩ := bnd_some hM
  rw [← eσ1] at hW
  refine lv_aload_n (pc := 5) hx hb dM_readAll_5 rfl (lv_at hl 0 rfl) ?_
  refine lv_iconst (pc := 6) (v := 1) hx hb dM_readAll_6 (by decide) ?_
  refine pM (pc := 7) (ty := .int) C hW 25 15 (by decide) q_1682 rfl rfl (by decide +kernel) rfl rfl (st_line dA h _ _) dM_readAll_7 (fun H locs hW => ?_)
  obtain ⟨σ2, eσ2, hM⟩ := bnd_some hM
  rw [← eσ2] at hW
  refine lv_aload_n (pc := 10) hx hb dM_readAll_10 rfl (lv_at hl 0 rfl) ?_
  refine lv_iconst (pc := 11) (v := 0) hx hb dM_readAll_11 (by decide) ?_
  refine pM (pc := 12) (ty := .int) C hW 26 16 (by decide) q_1683 rfl rfl (by decide +kernel) rfl rfl (st_section dA h _ _) dM_readAll_12 (fun H locs hW => ?_)
  obtain ⟨σ3, eσ3, hM⟩ := bnd_some hM
  rw [← eσ3] at hW
  refine lv_aload_n (pc := 15) hx hb dM_readAll_15 rfl (lv_at hl 0 rfl) ?_
  refine lv_iconst (pc := 16) (v := 0) hx hb dM_readAll_16 (by decide) ?_
  refine pM (pc := 17) (ty := .int) C hW 9 4 (by decide) q_1666 rfl rfl (by decide +kernel) rfl rfl (st_statements dA h _ _) dM_readAll_17 (fun H locs hW => ?_)
  obtain ⟨σ4, eσ4, hM⟩ := bnd_some hM
  rw [← eσ4] at hW
  refine lv_aload_n (pc := 20) hx hb dM_readAll_20 rfl (lv_at hl 0 rfl) ?_
  refine lv_iconst (pc := 21) (v := 0) hx hb dM_readAll_21 (by decide) ?_
  refine pM (pc := 22) (ty := .int) C hW 13 5 (by decide) q_1670 rfl rfl (by decide +kernel) rfl rfl (st_labels dA h _ _) dM_readAll_22 (fun H locs hW => ?_)
  obtain ⟨σ5, eσ5, hM⟩ := bnd_some hM
  rw [← eσ5] at hW
  exact bM_readAll_25 N  C  N  _ hM _ _ hW _ (lv_sub hl [0] rfl)
theorem kM_readAll (l : Launch) (D : va_G) (dA : Nat → ClassId) (h : Nat → Nat) (N : Nat)  (σ : MS) {r : Int32} {σ' : MS} (hM : M_readAll N  σ = some (r, σ')) : KM l D dA yM_readAll cM_readAll 4 none rm_readAll h σ [] none σ' := x_enterM rfl (Nat.le_of_ble_eq_true rfl) (fun p e s m args below meth c A C hW ls hl => bM_readAll_0 N C  σ hM s.heap [] hW ls hl)
def M_sizeAt_59 (t0 : Int32) (σ : MS) : Option Int32 :=
  some t0
set_option maxHeartbeats 4000000 in
set_option maxRecDepth 100000 in
theorem bM_sizeAt_59  {r : Int32} (C : CxM p s m args meth c cM_sizeAt 3 (some .int) D dA A) (t0 : Int32) (σ : MS) (hM : M_sizeAt_59  t0 σ = some r) (hW : WdM D dA h A s σ s.heap []) (ls : Array Slot) (hl : lv_has ls 3 []) : W p l e rm_sizeAt s m args below meth c s.heap [] 0 0 (MQ below (QS (some (.int r))) args s 0 0 (fun _ => False)) (F0 m 59 ls [.int t0]) := by
  have hx := C.1.1
  have hb := C.1.2.1
  have hown := C.1.2.2.2.2.1
  have hT := C.1.2.2.2.2.2.1
  unfold M_sizeAt_59 at hM
  obtain rfl := sm_i hM
  exact x_retS (pc := 59) C.1 rfl dM_sizeAt_59
def M_sizeAt (x1 : Int32) (x2 : Int32) (σ : MS) : Option Int32 :=
  gd (inB x1 1030) ((if 0 ≤ (σ.2 4 x1.toNatClampNeg) then gd (inB x1 1030) ((if ((σ.2 2 x1.toNatClampNeg) >>> ((16 : Int32) &&& 31)) ≤ 0 then gd (inB x1 1030) (M_sizeAt_59  (σ.2 4 x1.toNatClampNeg) σ) else gd (inB x1 1030) (M_sizeAt_59  ((2 : Int32) <<< ((((σ.2 2 x1.toNatClampNeg) >>> ((13 : Int32) &&& 31)) &&& (3 : Int32)) &&& 31)) σ))) else gd (inB x1 1030) (some ((-x2) &&& (((1 : Int32) <<< (((-1 : Int32) - (σ.2 4 x1.toNatClampNeg)) &&& 31)) - (1 : Int32))))))
set_option maxHeartbeats 4000000 in
set_option maxRecDepth 100000 in
theorem bM_sizeAt_0  {r : Int32} (C : CxM p s m args meth c cM_sizeAt 3 (some .int) D dA A) (x1 : Int32) (x2 : Int32) (σ : MS) (hM : M_sizeAt  x1 x2 σ = some r) (hW : WdM D dA h A s σ s.heap []) (ls : Array Slot) (hl : lv_has ls 3 [(0, .ref (h 0)), (1, .int x1), (2, .int x2)]) : W p l e rm_sizeAt s m args below meth c s.heap [] 0 0 (MQ below (QS (some (.int r))) args s 0 0 (fun _ => False)) (F0 m 0 ls []) := by
  have hx := C.1.1
  have hb := C.1.2.1
  have hown := C.1.2.2.2.2.1
  have hT := C.1.2.2.2.2.2.1
  unfold M_sizeAt at hM
  refine lv_aload_n (pc := 0) hx hb dM_sizeAt_0 rfl (lv_at hl 0 rfl) ?_
  refine gM (pc := 1) C hW 12 (by decide) q_1669 rfl rfl dM_sizeAt_1 ?_
  refine lv_iload_n (pc := 4) hx hb dM_sizeAt_4 rfl (lv_at hl 1 rfl) ?_
  obtain ⟨hg1, hM⟩ := gd_some hM
  refine x_ldI (pc := 5) C hW 8 rfl hg1 dM_sizeAt_5 ?_
  refine lv_if_ge (pc := 6) (tgt := 25) hx hb dM_sizeAt_6 (by decide) (fun hc => ?_) (fun hc => ?_)
  · replace hM := it_t hc hM
    refine lv_aload_n (pc := 25) hx hb dM_sizeAt_25 rfl (lv_at hl 0 rfl) ?_
    refine gM (pc := 26) C hW 10 (by decide) q_1667 rfl rfl dM_sizeAt_26 ?_
    refine lv_iload_n (pc := 29) hx hb dM_sizeAt_29 rfl (lv_at hl 1 rfl) ?_
    obtain ⟨hg2, hM⟩ := gd_some hM
    refine x_ldI (pc := 30) C hW 6 rfl hg2 dM_sizeAt_30 ?_
    refine lv_bipush (pc := 31) (v := 16) hx hb dM_sizeAt_31 (by decide) ?_
    refine lv_ishr (pc := 33) hx hb dM_sizeAt_33 ?_
    refine lv_if_le (pc := 34) (tgt := 53) hx hb dM_sizeAt_34 (by decide) (fun hc => ?_) (fun hc => ?_)
    · replace hM := it_t hc hM
      refine lv_aload_n (pc := 53) hx hb dM_sizeAt_53 rfl (lv_at hl 0 rfl) ?_
      refine gM (pc := 54) C hW 12 (by decide) q_1669 rfl rfl dM_sizeAt_54 ?_
      refine lv_iload_n (pc := 57) hx hb dM_sizeAt_57 rfl (lv_at hl 1 rfl) ?_
      obtain ⟨hg3, hM⟩ := gd_some hM
      refine x_ldI (pc := 58) C hW 8 rfl hg3 dM_sizeAt_58 ?_
      exact bM_sizeAt_59  C  _ _ hM hW _ (lv_sub hl [] rfl)
    · replace hM := it_f hc hM
      refine lv_iconst (pc := 37) (v := 2) hx hb dM_sizeAt_37 (by decide) ?_
      refine lv_aload_n (pc := 38) hx hb dM_sizeAt_38 rfl (lv_at hl 0 rfl) ?_
      refine gM (pc := 39) C hW 10 (by decide) q_1667 rfl rfl dM_sizeAt_39 ?_
      refine lv_iload_n (pc := 42) hx hb dM_sizeAt_42 rfl (lv_at hl 1 rfl) ?_
      obtain ⟨hg4, hM⟩ := gd_some hM
      refine x_ldI (pc := 43) C hW 6 rfl hg4 dM_sizeAt_43 ?_
      refine lv_bipush (pc := 44) (v := 13) hx hb dM_sizeAt_44 (by decide) ?_
      refine lv_ishr (pc := 46) hx hb dM_sizeAt_46 ?_
      refine lv_iconst (pc := 47) (v := 3) hx hb dM_sizeAt_47 (by decide) ?_
      refine lv_iand (pc := 48) hx hb dM_sizeAt_48 ?_
      refine lv_ishl (pc := 49) hx hb dM_sizeAt_49 ?_
      refine lv_goto (pc := 50) (tgt := 59) hx hb dM_sizeAt_50 (by decide) ?_
      exact bM_sizeAt_59  C  _ _ hM hW _ (lv_sub hl [] rfl)
  · replace hM := it_f hc hM
    refine lv_iload_n (pc := 9) hx hb dM_sizeAt_9 rfl (lv_at hl 2 rfl) ?_
    refine lv_ineg (pc := 10) hx hb dM_sizeAt_10 ?_
    refine lv_iconst (pc := 11) (v := 1) hx hb dM_sizeAt_11 (by decide) ?_
    refine lv_iconst (pc := 12) (v := -1) hx hb dM_sizeAt_12 (by decide) ?_
    refine lv_aload_n (pc := 13) hx hb dM_sizeAt_13 rfl (lv_at hl 0 rfl) ?_
    refine gM (pc := 14) C hW 12 (by decide) q_1669 rfl rfl dM_sizeAt_14 ?_
    refine lv_iload_n (pc := 17) hx hb dM_sizeAt_17 rfl (lv_at hl 1 rfl) ?_
    obtain ⟨hg5, hM⟩ := gd_some hM
    refine x_ldI (pc := 18) C hW 8 rfl hg5 dM_sizeAt_18 ?_
    refine lv_isub (pc := 19) hx hb dM_sizeAt_19 ?_
    refine lv_ishl (pc := 20) hx hb dM_sizeAt_20 ?_
    refine lv_iconst (pc := 21) (v := 1) hx hb dM_sizeAt_21 (by decide) ?_
    refine lv_isub (pc := 22) hx hb dM_sizeAt_22 ?_
    refine lv_iand (pc := 23) hx hb dM_sizeAt_23 ?_
    obtain rfl := sm_i hM
    exact x_retS (pc := 24) C.1 rfl dM_sizeAt_24
theorem kM_sizeAt (l : Launch) (D : va_G) (dA : Nat → ClassId) (h : Nat → Nat) (x1 : Int32) (x2 : Int32) (σ : MS) {r : Int32} (hM : M_sizeAt x1 x2 σ = some r) : KR l D dA yM_sizeAt cM_sizeAt 3 (some .int) rm_sizeAt h σ [.int x1, .int x2] (some (.int r)) := x_enterR rfl (Nat.le_of_ble_eq_true rfl) (fun p e s m args below meth c A C hW ls hl => bM_sizeAt_0 C x1 x2 σ hM hW ls hl)
def M_layout_213 (N : Nat) (rec14 : Int32 → Int32 → MS → Option (Int32 × MS)) (x1 : Int32) (x2 : Int32) (t1 : Int32) (t2 : Int32) (σ : MS) : Option (Int32 × MS) :=
  bnd (sF σ 6 (t1 + t2)) (fun σ1 => rec14 x1 (x2 + (1 : Int32)) σ1)
set_option maxHeartbeats 4000000 in
set_option maxRecDepth 100000 in
theorem bM_layout_213 (N : Nat) (rec14 : Int32 → Int32 → MS → Option (Int32 × MS)) {r : Int32} {σ' : MS} (C : CxM p s m args meth c cM_layout 5 none D dA A) (hrec14 : ∀ (x1 : Int32) (x2 : Int32) (σ : MS), rec14 x1 x2 σ = some (r, σ') → ∀ (H : Heap) (locs : List Loc), WdM D dA h A s σ H locs → ∀ (ls : Array Slot), lv_has ls 5 [(0, .ref (h 0)), (1, .int x1), (2, .int x2)] → W p l e rm_layout s m args below meth c H locs 0 0 (MQ below (QM D dA h A σ' none) args s 0 0 A) (F0 m 14 ls [])) (x1 : Int32) (x2 : Int32) (t1 : Int32) (t2 : Int32) (σ : MS) (hM : M_layout_213 N rec14 x1 x2 t1 t2 σ = some (r, σ')) (H : Heap) (locs : List Loc) (hW : WdM D dA h A s σ H locs) (ls : Array Slot) (hl : lv_has ls 5 [(0, .ref (h 0)), (1, .int x1), (2, .int x2)]) : W p l e rm_layout s m args below meth c H locs 0 0 (MQ below (QM D dA h A σ' none) args s 0 0 A) (F0 m 213 ls [.int t2, .int t1, .ref (h 0)]) := by
  have hx := C.1.1
  have hb := C.1.2.1
  have hown := C.1.2.2.2.2.1
  have hT := C.1.2.2.2.2.2.1
  unfold M_layout_213 at hM
  refine lv_iadd (pc := 213) hx hb dM_layout_213 ?_
  refine pM (pc := 214) (ty := .int) C hW 16 6 (by decide) q_1673 rfl rfl (by decide +kernel) rfl rfl (st_textSize dA h _ _) dM_layout_214 (fun H locs hW => ?_)
  obtain ⟨σ1, eσ1, hM⟩ := bnd_some hM
  rw [← eσ1] at hW
  refine lv_iinc (pc := 217) (v := x2 + (1 : Int32)) (lv' := [(2, .int (x2 + (1 : Int32))), (0, .ref (h 0)), (1, .int x1)]) hx hb dM_layout_217 hl (k := 2) rfl rfl (by decide) rfl (fun ls hl => ?_)
  refine lv_goto (pc := 220) (tgt := 14) hx hb dM_layout_220 (by decide) ?_
  exact hrec14 _ _ _ hM _ _ hW _ (lv_sub hl [1, 2, 0] rfl)
def M_layout_189 (N : Nat) (rec14 : Int32 → Int32 → MS → Option (Int32 × MS)) (x1 : Int32) (x2 : Int32) (x4 : Int32) (t1 : Int32) (t2 : Int32) (σ : MS) : Option (Int32 × MS) :=
  bnd (sF σ 7 (t1 + t2)) (fun σ1 => cr (M_sectionOf  x2 σ1) (fun r2 => (if r2 = (1 : Int32) then M_layout_213 N rec14 x1 x2 (σ1.1 6) (0 : Int32) σ1 else M_layout_213 N rec14 x1 x2 (σ1.1 6) x4 σ1)))
set_option maxHeartbeats 4000000 in
set_option maxRecDepth 100000 in
theorem bM_layout_189 (N : Nat) (rec14 : Int32 → Int32 → MS → Option (Int32 × MS)) {r : Int32} {σ' : MS} (C : CxM p s m args meth c cM_layout 5 none D dA A) (hrec14 : ∀ (x1 : Int32) (x2 : Int32) (σ : MS), rec14 x1 x2 σ = some (r, σ') → ∀ (H : Heap) (locs : List Loc), WdM D dA h A s σ H locs → ∀ (ls : Array Slot), lv_has ls 5 [(0, .ref (h 0)), (1, .int x1), (2, .int x2)] → W p l e rm_layout s m args below meth c H locs 0 0 (MQ below (QM D dA h A σ' none) args s 0 0 A) (F0 m 14 ls [])) (x1 : Int32) (x2 : Int32) (x4 : Int32) (t1 : Int32) (t2 : Int32) (σ : MS) (hM : M_layout_189 N rec14 x1 x2 x4 t1 t2 σ = some (r, σ')) (H : Heap) (locs : List Loc) (hW : WdM D dA h A s σ H locs) (ls : Array Slot) (hl : lv_has ls 5 [(0, .ref (h 0)), (1, .int x1), (2, .int x2), (4, .int x4)]) : W p l e rm_layout s m args below meth c H locs 0 0 (MQ below (QM D dA h A σ' none) args s 0 0 A) (F0 m 189 ls [.int t2, .int t1, .ref (h 0)]) := by
  have hx := C.1.1
  have hb := C.1.2.1
  have hown := C.1.2.2.2.2.1
  have hT := C.1.2.2.2.2.2.1
  unfold M_layout_189 at hM
  refine lv_iadd (pc := 189) hx hb dM_layout_189 ?_
  refine pM (pc := 190) (ty := .int) C hW 17 7 (by decide) q_1674 rfl rfl (by decide +kernel) rfl rfl (st_dataSize dA h _ _) dM_layout_190 (fun H locs hW => ?_)
  obtain ⟨σ1, eσ1, hM⟩ := bnd_some hM
  rw [← eσ1] at hW
  refine lv_aload_n (pc := 193) hx hb dM_layout_193 rfl (lv_at hl 0 rfl) ?_
  refine lv_dup (pc := 194) hx hb dM_layout_194 rfl ?_
  refine gM (pc := 195) C hW 16 (by decide) q_1673 rfl rfl dM_layout_195 ?_
  refine lv_aload_n (pc := 198) hx hb dM_layout_198 rfl (lv_at hl 0 rfl) ?_
  refine lv_iload_n (pc := 199) hx hb dM_layout_199 rfl (lv_at hl 2 rfl) ?_
  obtain ⟨r2, hr2, hM⟩ := cr_some hM
  refine x_callRi (pc := 200) C hW (kM_sectionOf l D dA h  x2 _ hr2) gM_sectionOf_694 ⟨rfl, by decide, by decide, by decide +kernel⟩ ⟨rfl, rfl⟩ ⟨by decide, by decide⟩ ⟨by decide, by decide⟩ (As := [.int x2]) (n := 1) rfl hl.1 rfl (Nat.le_of_ble_eq_true rfl) dM_layout_200 ?_
  refine lv_iconst (pc := 203) (v := 1) hx hb dM_layout_203 (by decide) ?_
  refine lv_icmp_ne (pc := 204) (tgt := 211) hx hb dM_layout_204 (by decide) (fun hc => ?_) (fun hc => ?_)
  · replace hM := it_f hc hM
    refine lv_iload (pc := 211) hx hb dM_layout_211 (lv_at hl 3 rfl) ?_
    exact bM_layout_213 N rec14 C hrec14 _ _ _ _ _ hM _ _ hW _ (lv_sub hl [0, 1, 2] rfl)
  · replace hM := it_t hc hM
    refine lv_iconst (pc := 207) (v := 0) hx hb dM_layout_207 (by decide) ?_
    refine lv_goto (pc := 208) (tgt := 213) hx hb dM_layout_208 (by decide) ?_
    exact bM_layout_213 N rec14 C hrec14 _ _ _ _ _ hM _ _ hW _ (lv_sub hl [0, 1, 2] rfl)
def M_layout_155 (N : Nat) (rec14 : Int32 → Int32 → MS → Option (Int32 × MS)) (x1 : Int32) (x2 : Int32) (t1 : Int32) (t2 : Int32) (σ : MS) : Option (Int32 × MS) :=
  gd (inB t1 1030) (bnd (sA σ 3 t1.toNatClampNeg t2) (fun σ2 => gd (inB x2 1030) (cr (M_sizeAt  x2 (σ2.2 3 x2.toNatClampNeg) σ2) (fun r4 => cr (M_sectionOf  x2 σ2) (fun r5 => (if r5 = (1 : Int32) then M_layout_189 N rec14 x1 x2 r4 (σ2.1 7) r4 σ2 else M_layout_189 N rec14 x1 x2 r4 (σ2.1 7) (0 : Int32) σ2))))))
set_option maxHeartbeats 4000000 in
set_option maxRecDepth 100000 in
theorem bM_layout_155 (N : Nat) (rec14 : Int32 → Int32 → MS → Option (Int32 × MS)) {r : Int32} {σ' : MS} (C : CxM p s m args meth c cM_layout 5 none D dA A) (hrec14 : ∀ (x1 : Int32) (x2 : Int32) (σ : MS), rec14 x1 x2 σ = some (r, σ') → ∀ (H : Heap) (locs : List Loc), WdM D dA h A s σ H locs → ∀ (ls : Array Slot), lv_has ls 5 [(0, .ref (h 0)), (1, .int x1), (2, .int x2)] → W p l e rm_layout s m args below meth c H locs 0 0 (MQ below (QM D dA h A σ' none) args s 0 0 A) (F0 m 14 ls [])) (x1 : Int32) (x2 : Int32) (t1 : Int32) (t2 : Int32) (σ : MS) (hM : M_layout_155 N rec14 x1 x2 t1 t2 σ = some (r, σ')) (H : Heap) (locs : List Loc) (hW : WdM D dA h A s σ H locs) (ls : Array Slot) (hl : lv_has ls 5 [(0, .ref (h 0)), (1, .int x1), (2, .int x2)]) : W p l e rm_layout s m args below meth c H locs 0 0 (MQ below (QM D dA h A σ' none) args s 0 0 A) (F0 m 155 ls [.int t2, .int t1, .ref (h 7)]) := by
  have hx := C.1.1
  have hb := C.1.2.1
  have hown := C.1.2.2.2.2.1
  have hT := C.1.2.2.2.2.2.1
  unfold M_layout_155 at hM
  obtain ⟨hg1, hM⟩ := gd_some hM
  refine x_stI (pc := 155) C hW 7 3 rfl hg1 (sa_offset dA h _ _ _) dM_layout_155 (fun H locs hW => ?_)
  obtain ⟨σ2, eσ2, hM⟩ := bnd_some hM
  rw [← eσ2] at hW
  refine lv_aload_n (pc := 156) hx hb dM_layout_156 rfl (lv_at hl 0 rfl) ?_
  refine lv_iload_n (pc := 157) hx hb dM_layout_157 rfl (lv_at hl 2 rfl) ?_
  refine lv_aload_n (pc := 158) hx hb dM_layout_158 rfl (lv_at hl 0 rfl) ?_
  refine gM (pc := 159) C hW 11 (by decide) q_1668 rfl rfl dM_layout_159 ?_
  refine lv_iload_n (pc := 162) hx hb dM_layout_162 rfl (lv_at hl 2 rfl) ?_
  obtain ⟨hg3, hM⟩ := gd_some hM
  refine x_ldI (pc := 163) C hW 7 rfl hg3 dM_layout_163 ?_
  obtain ⟨r4, hr4, hM⟩ := cr_some hM
  refine x_callRi (pc := 164) C hW (kM_sizeAt l D dA h  x2 (σ2.2 3 x2.toNatClampNeg) _ hr4) gM_sizeAt_697 ⟨rfl, by decide, by decide, by decide +kernel⟩ ⟨rfl, rfl⟩ ⟨by decide, by decide⟩ ⟨by decide, by decide⟩ (As := [.int x2, .int (σ2.2 3 x2.toNatClampNeg)]) (n := 2) rfl hl.1 rfl (Nat.le_of_ble_eq_true rfl) dM_layout_164 ?_
  refine lv_istore (pc := 167) (lv' := [(4, .int r4), (0, .ref (h 0)), (1, .int x1), (2, .int x2)]) hx hb dM_layout_167 hl (by decide) rfl (fun ls hl => ?_)
  refine lv_aload_n (pc := 169) hx hb dM_layout_169 rfl (lv_at hl 1 rfl) ?_
  refine lv_dup (pc := 170) hx hb dM_layout_170 rfl ?_
  refine gM (pc := 171) C hW 17 (by decide) q_1674 rfl rfl dM_layout_171 ?_
  refine lv_aload_n (pc := 174) hx hb dM_layout_174 rfl (lv_at hl 1 rfl) ?_
  refine lv_iload_n (pc := 175) hx hb dM_layout_175 rfl (lv_at hl 3 rfl) ?_
  obtain ⟨r5, hr5, hM⟩ := cr_some hM
  refine x_callRi (pc := 176) C hW (kM_sectionOf l D dA h  x2 _ hr5) gM_sectionOf_694 ⟨rfl, by decide, by decide, by decide +kernel⟩ ⟨rfl, rfl⟩ ⟨by decide, by decide⟩ ⟨by decide, by decide⟩ (As := [.int x2]) (n := 1) rfl hl.1 rfl (Nat.le_of_ble_eq_true rfl) dM_layout_176 ?_
  refine lv_iconst (pc := 179) (v := 1) hx hb dM_layout_179 (by decide) ?_
  refine lv_icmp_ne (pc := 180) (tgt := 188) hx hb dM_layout_180 (by decide) (fun hc => ?_) (fun hc => ?_)
  · replace hM := it_f hc hM
    refine lv_iconst (pc := 188) (v := 0) hx hb dM_layout_188 (by decide) ?_
    exact bM_layout_189 N rec14 C hrec14 _ _ _ _ _ _ hM _ _ hW _ (lv_sub hl [1, 2, 3, 0] rfl)
  · replace hM := it_t hc hM
    refine lv_iload (pc := 183) hx hb dM_layout_183 (lv_at hl 0 rfl) ?_
    refine lv_goto (pc := 185) (tgt := 189) hx hb dM_layout_185 (by decide) ?_
    exact bM_layout_189 N rec14 C hrec14 _ _ _ _ _ _ hM _ _ hW _ (lv_sub hl [1, 2, 3, 0] rfl)
def M_layout_121 (N : Nat) (rec14 : Int32 → Int32 → MS → Option (Int32 × MS)) (x1 : Int32) (x2 : Int32) (σ : MS) : Option (Int32 × MS) :=
  (if x2 = (σ.1 4) then some ((0 : Int32), σ) else cr (M_sectionOf  x2 σ) (fun r1 => (if r1 = (1 : Int32) then M_layout_155 N rec14 x1 x2 x2 (σ.1 7) σ else M_layout_155 N rec14 x1 x2 x2 (σ.1 6) σ)))
set_option maxHeartbeats 4000000 in
set_option maxRecDepth 100000 in
theorem bM_layout_121 (N : Nat) (rec14 : Int32 → Int32 → MS → Option (Int32 × MS)) {r : Int32} {σ' : MS} (C : CxM p s m args meth c cM_layout 5 none D dA A) (hrec14 : ∀ (x1 : Int32) (x2 : Int32) (σ : MS), rec14 x1 x2 σ = some (r, σ') → ∀ (H : Heap) (locs : List Loc), WdM D dA h A s σ H locs → ∀ (ls : Array Slot), lv_has ls 5 [(0, .ref (h 0)), (1, .int x1), (2, .int x2)] → W p l e rm_layout s m args below meth c H locs 0 0 (MQ below (QM D dA h A σ' none) args s 0 0 A) (F0 m 14 ls [])) (x1 : Int32) (x2 : Int32) (σ : MS) (hM : M_layout_121 N rec14 x1 x2 σ = some (r, σ')) (H : Heap) (locs : List Loc) (hW : WdM D dA h A s σ H locs) (ls : Array Slot) (hl : lv_has ls 5 [(0, .ref (h 0)), (1, .int x1), (2, .int x2)]) : W p l e rm_layout s m args below meth c H locs 0 0 (MQ below (QM D dA h A σ' none) args s 0 0 A) (F0 m 121 ls []) := by
  have hx := C.1.1
  have hb := C.1.2.1
  have hown := C.1.2.2.2.2.1
  have hT := C.1.2.2.2.2.2.1
  unfold M_layout_121 at hM
  refine lv_iload_n (pc := 121) hx hb dM_layout_121 rfl (lv_at hl 2 rfl) ?_
  refine lv_aload_n (pc := 122) hx hb dM_layout_122 rfl (lv_at hl 0 rfl) ?_
  refine gM (pc := 123) C hW 9 (by decide) q_1666 rfl rfl dM_layout_123 ?_
  refine lv_icmp_ne (pc := 126) (tgt := 130) hx hb dM_layout_126 (by decide) (fun hc => ?_) (fun hc => ?_)
  · replace hM := it_f hc hM
    refine lv_aload_n (pc := 130) hx hb dM_layout_130 rfl (lv_at hl 0 rfl) ?_
    refine gM (pc := 131) C hW 11 (by decide) q_1668 rfl rfl dM_layout_131 ?_
    refine lv_iload_n (pc := 134) hx hb dM_layout_134 rfl (lv_at hl 2 rfl) ?_
    refine lv_aload_n (pc := 135) hx hb dM_layout_135 rfl (lv_at hl 0 rfl) ?_
    refine lv_iload_n (pc := 136) hx hb dM_layout_136 rfl (lv_at hl 2 rfl) ?_
    obtain ⟨r1, hr1, hM⟩ := cr_some hM
    refine x_callRi (pc := 137) C hW (kM_sectionOf l D dA h  x2 _ hr1) gM_sectionOf_694 ⟨rfl, by decide, by decide, by decide +kernel⟩ ⟨rfl, rfl⟩ ⟨by decide, by decide⟩ ⟨by decide, by decide⟩ (As := [.int x2]) (n := 1) rfl hl.1 rfl (Nat.le_of_ble_eq_true rfl) dM_layout_137 ?_
    refine lv_iconst (pc := 140) (v := 1) hx hb dM_layout_140 (by decide) ?_
    refine lv_icmp_ne (pc := 141) (tgt := 151) hx hb dM_layout_141 (by decide) (fun hc => ?_) (fun hc => ?_)
    · replace hM := it_f hc hM
      refine lv_aload_n (pc := 151) hx hb dM_layout_151 rfl (lv_at hl 0 rfl) ?_
      refine gM (pc := 152) C hW 16 (by decide) q_1673 rfl rfl dM_layout_152 ?_
      exact bM_layout_155 N rec14 C hrec14 _ _ _ _ _ hM _ _ hW _ (lv_sub hl [0, 1, 2] rfl)
    · replace hM := it_t hc hM
      refine lv_aload_n (pc := 144) hx hb dM_layout_144 rfl (lv_at hl 0 rfl) ?_
      refine gM (pc := 145) C hW 17 (by decide) q_1674 rfl rfl dM_layout_145 ?_
      refine lv_goto (pc := 148) (tgt := 155) hx hb dM_layout_148 (by decide) ?_
      exact bM_layout_155 N rec14 C hrec14 _ _ _ _ _ hM _ _ hW _ (lv_sub hl [0, 1, 2] rfl)
  · replace hM := it_t hc hM
    obtain ⟨rfl, rfl⟩ := sm_p hM
    exact x_retMv (pc := 129) C rfl hW dM_layout_129
def M_layout_115 (N : Nat) (rec14 : Int32 → Int32 → MS → Option (Int32 × MS)) (rec47 : Int32 → Int32 → Int32 → MS → Option (Int32 × MS)) (x1 : Int32) (x2 : Int32) (x3 : Int32) (σ : MS) : Option (Int32 × MS) :=
  rec47 (x1 + (1 : Int32)) x2 x3 σ
set_option maxHeartbeats 4000000 in
set_option maxRecDepth 100000 in
theorem bM_layout_115 (N : Nat) (rec14 : Int32 → Int32 → MS → Option (Int32 × MS)) (rec47 : Int32 → Int32 → Int32 → MS → Option (Int32 × MS)) {r : Int32} {σ' : MS} (C : CxM p s m args meth c cM_layout 5 none D dA A) (hrec14 : ∀ (x1 : Int32) (x2 : Int32) (σ : MS), rec14 x1 x2 σ = some (r, σ') → ∀ (H : Heap) (locs : List Loc), WdM D dA h A s σ H locs → ∀ (ls : Array Slot), lv_has ls 5 [(0, .ref (h 0)), (1, .int x1), (2, .int x2)] → W p l e rm_layout s m args below meth c H locs 0 0 (MQ below (QM D dA h A σ' none) args s 0 0 A) (F0 m 14 ls [])) (hrec47 : ∀ (x1 : Int32) (x2 : Int32) (x3 : Int32) (σ : MS), rec47 x1 x2 x3 σ = some (r, σ') → ∀ (H : Heap) (locs : List Loc), WdM D dA h A s σ H locs → ∀ (ls : Array Slot), lv_has ls 5 [(0, .ref (h 0)), (1, .int x1), (2, .int x2), (3, .int x3)] → W p l e rm_layout s m args below meth c H locs 0 0 (MQ below (QM D dA h A σ' none) args s 0 0 A) (F0 m 47 ls [])) (x1 : Int32) (x2 : Int32) (x3 : Int32) (σ : MS) (hM : M_layout_115 N rec14 rec47 x1 x2 x3 σ = some (r, σ')) (H : Heap) (locs : List Loc) (hW : WdM D dA h A s σ H locs) (ls : Array Slot) (hl : lv_has ls 5 [(0, .ref (h 0)), (1, .int x1), (2, .int x2), (3, .int x3)]) : W p l e rm_layout s m args below meth c H locs 0 0 (MQ below (QM D dA h A σ' none) args s 0 0 A) (F0 m 115 ls []) := by
  have hx := C.1.1
  have hb := C.1.2.1
  have hown := C.1.2.2.2.2.1
  have hT := C.1.2.2.2.2.2.1
  unfold M_layout_115 at hM
  refine lv_iinc (pc := 115) (v := x1 + (1 : Int32)) (lv' := [(1, .int (x1 + (1 : Int32))), (0, .ref (h 0)), (2, .int x2), (3, .int x3)]) hx hb dM_layout_115 hl (k := 1) rfl rfl (by decide) rfl (fun ls hl => ?_)
  refine lv_goto (pc := 118) (tgt := 47) hx hb dM_layout_118 (by decide) ?_
  exact hrec47 _ _ _ _ hM _ _ hW _ (lv_sub hl [1, 0, 2, 3] rfl)
def M_layout_114 (N : Nat) (rec14 : Int32 → Int32 → MS → Option (Int32 × MS)) (rec47 : Int32 → Int32 → Int32 → MS → Option (Int32 × MS)) (x1 : Int32) (x2 : Int32) (x3 : Int32) (t1 : Int32) (t2 : Int32) (σ : MS) : Option (Int32 × MS) :=
  gd (inB t1 2060) (bnd (sA σ 6 t1.toNatClampNeg t2) (fun σ2 => M_layout_115 N rec14 rec47 x1 x2 x3 σ2))
set_option maxHeartbeats 4000000 in
set_option maxRecDepth 100000 in
theorem bM_layout_114 (N : Nat) (rec14 : Int32 → Int32 → MS → Option (Int32 × MS)) (rec47 : Int32 → Int32 → Int32 → MS → Option (Int32 × MS)) {r : Int32} {σ' : MS} (C : CxM p s m args meth c cM_layout 5 none D dA A) (hrec14 : ∀ (x1 : Int32) (x2 : Int32) (σ : MS), rec14 x1 x2 σ = some (r, σ') → ∀ (H : Heap) (locs : List Loc), WdM D dA h A s σ H locs → ∀ (ls : Array Slot), lv_has ls 5 [(0, .ref (h 0)), (1, .int x1), (2, .int x2)] → W p l e rm_layout s m args below meth c H locs 0 0 (MQ below (QM D dA h A σ' none) args s 0 0 A) (F0 m 14 ls [])) (hrec47 : ∀ (x1 : Int32) (x2 : Int32) (x3 : Int32) (σ : MS), rec47 x1 x2 x3 σ = some (r, σ') → ∀ (H : Heap) (locs : List Loc), WdM D dA h A s σ H locs → ∀ (ls : Array Slot), lv_has ls 5 [(0, .ref (h 0)), (1, .int x1), (2, .int x2), (3, .int x3)] → W p l e rm_layout s m args below meth c H locs 0 0 (MQ below (QM D dA h A σ' none) args s 0 0 A) (F0 m 47 ls [])) (x1 : Int32) (x2 : Int32) (x3 : Int32) (t1 : Int32) (t2 : Int32) (σ : MS) (hM : M_layout_114 N rec14 rec47 x1 x2 x3 t1 t2 σ = some (r, σ')) (H : Heap) (locs : List Loc) (hW : WdM D dA h A s σ H locs) (ls : Array Slot) (hl : lv_has ls 5 [(0, .ref (h 0)), (1, .int x1), (2, .int x2), (3, .int x3)]) : W p l e rm_layout s m args below meth c H locs 0 0 (MQ below (QM D dA h A σ' none) args s 0 0 A) (F0 m 114 ls [.int t2, .int t1, .ref (h 10)]) := by
  have hx := C.1.1
  have hb := C.1.2.1
  have hown := C.1.2.2.2.2.1
  have hT := C.1.2.2.2.2.2.1
  unfold M_layout_114 at hM
  obtain ⟨hg1, hM⟩ := gd_some hM
  refine x_stI (pc := 114) C hW 10 6 rfl hg1 (sa_where dA h _ _ _) dM_layout_114 (fun H locs hW => ?_)
  obtain ⟨σ2, eσ2, hM⟩ := bnd_some hM
  rw [← eσ2] at hW
  exact bM_layout_115 N rec14 rec47 C hrec14 hrec47 _ _ _ _ hM _ _ hW _ (lv_sub hl [0, 1, 2, 3] rfl)
def M_layout_103 (N : Nat) (rec14 : Int32 → Int32 → MS → Option (Int32 × MS)) (rec47 : Int32 → Int32 → Int32 → MS → Option (Int32 × MS)) (x1 : Int32) (x2 : Int32) (x3 : Int32) (t1 : Int32) (σ : MS) : Option (Int32 × MS) :=
  M_layout_114 N rec14 rec47 x1 x2 x3 t1 (σ.1 7) σ
set_option maxHeartbeats 4000000 in
set_option maxRecDepth 100000 in
theorem bM_layout_103 (N : Nat) (rec14 : Int32 → Int32 → MS → Option (Int32 × MS)) (rec47 : Int32 → Int32 → Int32 → MS → Option (Int32 × MS)) {r : Int32} {σ' : MS} (C : CxM p s m args meth c cM_layout 5 none D dA A) (hrec14 : ∀ (x1 : Int32) (x2 : Int32) (σ : MS), rec14 x1 x2 σ = some (r, σ') → ∀ (H : Heap) (locs : List Loc), WdM D dA h A s σ H locs → ∀ (ls : Array Slot), lv_has ls 5 [(0, .ref (h 0)), (1, .int x1), (2, .int x2)] → W p l e rm_layout s m args below meth c H locs 0 0 (MQ below (QM D dA h A σ' none) args s 0 0 A) (F0 m 14 ls [])) (hrec47 : ∀ (x1 : Int32) (x2 : Int32) (x3 : Int32) (σ : MS), rec47 x1 x2 x3 σ = some (r, σ') → ∀ (H : Heap) (locs : List Loc), WdM D dA h A s σ H locs → ∀ (ls : Array Slot), lv_has ls 5 [(0, .ref (h 0)), (1, .int x1), (2, .int x2), (3, .int x3)] → W p l e rm_layout s m args below meth c H locs 0 0 (MQ below (QM D dA h A σ' none) args s 0 0 A) (F0 m 47 ls [])) (x1 : Int32) (x2 : Int32) (x3 : Int32) (t1 : Int32) (σ : MS) (hM : M_layout_103 N rec14 rec47 x1 x2 x3 t1 σ = some (r, σ')) (H : Heap) (locs : List Loc) (hW : WdM D dA h A s σ H locs) (ls : Array Slot) (hl : lv_has ls 5 [(0, .ref (h 0)), (1, .int x1), (2, .int x2), (3, .int x3)]) : W p l e rm_layout s m args below meth c H locs 0 0 (MQ below (QM D dA h A σ' none) args s 0 0 A) (F0 m 103 ls [.int t1, .ref (h 10)]) := by
  have hx := C.1.1
  have hb := C.1.2.1
  have hown := C.1.2.2.2.2.1
  have hT := C.1.2.2.2.2.2.1
  unfold M_layout_103 at hM
  refine lv_aload_n (pc := 103) hx hb dM_layout_103 rfl (lv_at hl 0 rfl) ?_
  refine gM (pc := 104) C hW 17 (by decide) q_1674 rfl rfl dM_layout_104 ?_
  refine lv_goto (pc := 107) (tgt := 114) hx hb dM_layout_107 (by decide) ?_
  exact bM_layout_114 N rec14 rec47 C hrec14 hrec47 _ _ _ _ _ _ hM _ _ hW _ (lv_sub hl [0, 1, 2, 3] rfl)
def M_layout_47 (N : Nat) (rec14 : Int32 → Int32 → MS → Option (Int32 × MS)) : Nat → Int32 → Int32 → Int32 → MS → Option (Int32 × MS)
  | 0 => fun _ _ _ _ => none
  | n + 1 => fun x1 x2 x3 σ => (if (σ.1 5) ≤ x1 then M_layout_121 N rec14 x1 x2 σ else gd (inB x1 2060) ((if x3 ≤ ((σ.2 5 x1.toNatClampNeg) &&& (8191 : Int32)) then M_layout_121 N rec14 x1 x2 σ else gd (inB x1 2060) (bnd ((σ.2 5 x1.toNatClampNeg) >>> ((13 : Int32) &&& 31)) (fun y3 => (if y3 = (2 : Int32) then M_layout_115 N rec14 (M_layout_47 N rec14 n) x1 x2 x3 σ else (if y3 = (1 : Int32) then M_layout_103 N rec14 (M_layout_47 N rec14 n) x1 x2 x3 x1 σ else (if y3 = (4 : Int32) then M_layout_103 N rec14 (M_layout_47 N rec14 n) x1 x2 x3 x1 σ else M_layout_114 N rec14 (M_layout_47 N rec14 n) x1 x2 x3 x1 (σ.1 6) σ))))))))
set_option maxHeartbeats 4000000 in
set_option maxRecDepth 100000 in
theorem bM_layout_47 (N : Nat) (rec14 : Int32 → Int32 → MS → Option (Int32 × MS)) {r : Int32} {σ' : MS} (C : CxM p s m args meth c cM_layout 5 none D dA A) (hrec14 : ∀ (x1 : Int32) (x2 : Int32) (σ : MS), rec14 x1 x2 σ = some (r, σ') → ∀ (H : Heap) (locs : List Loc), WdM D dA h A s σ H locs → ∀ (ls : Array Slot), lv_has ls 5 [(0, .ref (h 0)), (1, .int x1), (2, .int x2)] → W p l e rm_layout s m args below meth c H locs 0 0 (MQ below (QM D dA h A σ' none) args s 0 0 A) (F0 m 14 ls [])) : ∀ (n : Nat) (x1 : Int32) (x2 : Int32) (x3 : Int32) (σ : MS), M_layout_47 N rec14 n x1 x2 x3 σ = some (r, σ') → ∀ (H : Heap) (locs : List Loc), WdM D dA h A s σ H locs → ∀ (ls : Array Slot), lv_has ls 5 [(0, .ref (h 0)), (1, .int x1), (2, .int x2), (3, .int x3)] → W p l e rm_layout s m args below meth c H locs 0 0 (MQ below (QM D dA h A σ' none) args s 0 0 A) (F0 m 47 ls []) := by
  have hx := C.1.1
  have hb := C.1.2.1
  have hown := C.1.2.2.2.2.1
  have hT := C.1.2.2.2.2.2.1
  intro n
  induction n with
  | zero => intro x1 x2 x3 σ hM; cases hM
  | succ n hrec47 =>
    intro x1 x2 x3 σ hM H locs hW ls hl
    rw [M_layout_47] at hM
    refine lv_iload_n (pc := 47) hx hb dM_layout_47 rfl (lv_at hl 1 rfl) ?_
    refine lv_aload_n (pc := 48) hx hb dM_layout_48 rfl (lv_at hl 0 rfl) ?_
    refine gM (pc := 49) C hW 13 (by decide) q_1670 rfl rfl dM_layout_49 ?_
    refine lv_icmp_ge (pc := 52) (tgt := 121) hx hb dM_layout_52 (by decide) (fun hc => ?_) (fun hc => ?_)
    · replace hM := it_t hc hM
      exact bM_layout_121 N rec14 C hrec14 _ _ _ hM _ _ hW _ (lv_sub hl [0, 1, 2] rfl)
    · replace hM := it_f hc hM
      refine lv_aload_n (pc := 55) hx hb dM_layout_55 rfl (lv_at hl 0 rfl) ?_
      refine gM (pc := 56) C hW 14 (by decide) q_1671 rfl rfl dM_layout_56 ?_
      refine lv_iload_n (pc := 59) hx hb dM_layout_59 rfl (lv_at hl 1 rfl) ?_
      obtain ⟨hg1, hM⟩ := gd_some hM
      refine x_ldI (pc := 60) C hW 9 rfl hg1 dM_layout_60 ?_
      refine lv_sipush (pc := 61) (v := 8191) hx hb dM_layout_61 (by decide) ?_
      refine lv_iand (pc := 64) hx hb dM_layout_64 ?_
      refine lv_iload_n (pc := 65) hx hb dM_layout_65 rfl (lv_at hl 3 rfl) ?_
      refine lv_icmp_ge (pc := 66) (tgt := 121) hx hb dM_layout_66 (by decide) (fun hc => ?_) (fun hc => ?_)
      · replace hM := it_t hc hM
        exact bM_layout_121 N rec14 C hrec14 _ _ _ hM _ _ hW _ (lv_sub hl [0, 1, 2] rfl)
      · replace hM := it_f hc hM
        refine lv_aload_n (pc := 69) hx hb dM_layout_69 rfl (lv_at hl 0 rfl) ?_
        refine gM (pc := 70) C hW 14 (by decide) q_1671 rfl rfl dM_layout_70 ?_
        refine lv_iload_n (pc := 73) hx hb dM_layout_73 rfl (lv_at hl 1 rfl) ?_
        obtain ⟨hg2, hM⟩ := gd_some hM
        refine x_ldI (pc := 74) C hW 9 rfl hg2 dM_layout_74 ?_
        refine lv_bipush (pc := 75) (v := 13) hx hb dM_layout_75 (by decide) ?_
        refine lv_ishr (pc := 77) hx hb dM_layout_77 ?_
        obtain ⟨y3, ey3, hM⟩ := bnd_some hM
        refine x_seti ey3 ?_
        refine lv_istore (pc := 78) (lv' := [(4, .int y3), (0, .ref (h 0)), (1, .int x1), (2, .int x2), (3, .int x3)]) hx hb dM_layout_78 hl (by decide) rfl (fun ls hl => ?_)
        refine lv_iload (pc := 80) hx hb dM_layout_80 (lv_at hl 0 rfl) ?_
        refine lv_iconst (pc := 82) (v := 2) hx hb dM_layout_82 (by decide) ?_
        refine lv_icmp_eq (pc := 83) (tgt := 115) hx hb dM_layout_83 (by decide) (fun hc => ?_) (fun hc => ?_)
        · replace hM := it_t hc hM
          exact bM_layout_115 N rec14 _ C hrec14 hrec47 _ _ _ _ hM _ _ hW _ (lv_sub hl [1, 2, 3, 4] rfl)
        · replace hM := it_f hc hM
          refine lv_aload_n (pc := 86) hx hb dM_layout_86 rfl (lv_at hl 1 rfl) ?_
          refine gM (pc := 87) C hW 15 (by decide) q_1672 rfl rfl dM_layout_87 ?_
          refine lv_iload_n (pc := 90) hx hb dM_layout_90 rfl (lv_at hl 2 rfl) ?_
          refine lv_iload (pc := 91) hx hb dM_layout_91 (lv_at hl 0 rfl) ?_
          refine lv_iconst (pc := 93) (v := 1) hx hb dM_layout_93 (by decide) ?_
          refine lv_icmp_eq (pc := 94) (tgt := 103) hx hb dM_layout_94 (by decide) (fun hc => ?_) (fun hc => ?_)
          · replace hM := it_t hc hM
            exact bM_layout_103 N rec14 _ C hrec14 hrec47 _ _ _ _ _ hM _ _ hW _ (lv_sub hl [1, 2, 3, 4] rfl)
          · replace hM := it_f hc hM
            refine lv_iload (pc := 97) hx hb dM_layout_97 (lv_at hl 0 rfl) ?_
            refine lv_iconst (pc := 99) (v := 4) hx hb dM_layout_99 (by decide) ?_
            refine lv_icmp_ne (pc := 100) (tgt := 110) hx hb dM_layout_100 (by decide) (fun hc => ?_) (fun hc => ?_)
            · replace hM := it_f hc hM
              refine lv_aload_n (pc := 110) hx hb dM_layout_110 rfl (lv_at hl 1 rfl) ?_
              refine gM (pc := 111) C hW 16 (by decide) q_1673 rfl rfl dM_layout_111 ?_
              exact bM_layout_114 N rec14 _ C hrec14 hrec47 _ _ _ _ _ _ hM _ _ hW _ (lv_sub hl [1, 2, 3, 4] rfl)
            · replace hM := it_t hc hM
              exact bM_layout_103 N rec14 _ C hrec14 hrec47 _ _ _ _ _ hM _ _ hW _ (lv_sub hl [1, 2, 3, 4] rfl)
def M_layout_46 (N : Nat) (rec14 : Int32 → Int32 → MS → Option (Int32 × MS)) (x1 : Int32) (x2 : Int32) (t0 : Int32) (σ : MS) : Option (Int32 × MS) :=
  M_layout_47 N rec14 N x1 x2 t0 σ
set_option maxHeartbeats 4000000 in
set_option maxRecDepth 100000 in
theorem bM_layout_46 (N : Nat) (rec14 : Int32 → Int32 → MS → Option (Int32 × MS)) {r : Int32} {σ' : MS} (C : CxM p s m args meth c cM_layout 5 none D dA A) (hrec14 : ∀ (x1 : Int32) (x2 : Int32) (σ : MS), rec14 x1 x2 σ = some (r, σ') → ∀ (H : Heap) (locs : List Loc), WdM D dA h A s σ H locs → ∀ (ls : Array Slot), lv_has ls 5 [(0, .ref (h 0)), (1, .int x1), (2, .int x2)] → W p l e rm_layout s m args below meth c H locs 0 0 (MQ below (QM D dA h A σ' none) args s 0 0 A) (F0 m 14 ls [])) (x1 : Int32) (x2 : Int32) (t0 : Int32) (σ : MS) (hM : M_layout_46 N rec14 x1 x2 t0 σ = some (r, σ')) (H : Heap) (locs : List Loc) (hW : WdM D dA h A s σ H locs) (ls : Array Slot) (hl : lv_has ls 5 [(0, .ref (h 0)), (1, .int x1), (2, .int x2)]) : W p l e rm_layout s m args below meth c H locs 0 0 (MQ below (QM D dA h A σ' none) args s 0 0 A) (F0 m 46 ls [.int t0]) := by
  have hx := C.1.1
  have hb := C.1.2.1
  have hown := C.1.2.2.2.2.1
  have hT := C.1.2.2.2.2.2.1
  unfold M_layout_46 at hM
  refine lv_istore_n (pc := 46) (lv' := [(3, .int t0), (0, .ref (h 0)), (1, .int x1), (2, .int x2)]) hx hb dM_layout_46 rfl hl (by decide) rfl (fun ls hl => ?_)
  exact bM_layout_47 N rec14 C hrec14 N _ _ _ _ hM _ _ hW _ (lv_sub hl [1, 2, 3, 0] rfl)
def M_layout_14 (N : Nat)  : Nat → Int32 → Int32 → MS → Option (Int32 × MS)
  | 0 => fun _ _ _ => none
  | n + 1 => fun x1 x2 σ => (if (σ.1 4) < x2 then some ((0 : Int32), σ) else (if (σ.1 4) ≤ x2 then M_layout_46 N (M_layout_14 N  n) x1 x2 (8191 : Int32) σ else gd (inB x2 1030) (M_layout_46 N (M_layout_14 N  n) x1 x2 ((σ.2 2 x2.toNatClampNeg) &&& (8191 : Int32)) σ)))
set_option maxHeartbeats 4000000 in
set_option maxRecDepth 100000 in
theorem bM_layout_14 (N : Nat)  {r : Int32} {σ' : MS} (C : CxM p s m args meth c cM_layout 5 none D dA A) : ∀ (n : Nat) (x1 : Int32) (x2 : Int32) (σ : MS), M_layout_14 N  n x1 x2 σ = some (r, σ') → ∀ (H : Heap) (locs : List Loc), WdM D dA h A s σ H locs → ∀ (ls : Array Slot), lv_has ls 5 [(0, .ref (h 0)), (1, .int x1), (2, .int x2)] → W p l e rm_layout s m args below meth c H locs 0 0 (MQ below (QM D dA h A σ' none) args s 0 0 A) (F0 m 14 ls []) := by
  have hx := C.1.1
  have hb := C.1.2.1
  have hown := C.1.2.2.2.2.1
  have hT := C.1.2.2.2.2.2.1
  intro n
  induction n with
  | zero => intro x1 x2 σ hM; cases hM
  | succ n hrec14 =>
    intro x1 x2 σ hM H locs hW ls hl
    rw [M_layout_14] at hM
    refine lv_iload_n (pc := 14) hx hb dM_layout_14 rfl (lv_at hl 2 rfl) ?_
    refine lv_aload_n (pc := 15) hx hb dM_layout_15 rfl (lv_at hl 0 rfl) ?_
    refine gM (pc := 16) C hW 9 (by decide) q_1666 rfl rfl dM_layout_16 ?_
    refine lv_icmp_gt (pc := 19) (tgt := 223) hx hb dM_layout_19 (by decide) (fun hc => ?_) (fun hc => ?_)
    · replace hM := it_t hc hM
      obtain ⟨rfl, rfl⟩ := sm_p hM
      exact x_retMv (pc := 223) C rfl hW dM_layout_223
    · replace hM := it_f hc hM
      refine lv_iload_n (pc := 22) hx hb dM_layout_22 rfl (lv_at hl 2 rfl) ?_
      refine lv_aload_n (pc := 23) hx hb dM_layout_23 rfl (lv_at hl 0 rfl) ?_
      refine gM (pc := 24) C hW 9 (by decide) q_1666 rfl rfl dM_layout_24 ?_
      refine lv_icmp_ge (pc := 27) (tgt := 43) hx hb dM_layout_27 (by decide) (fun hc => ?_) (fun hc => ?_)
      · replace hM := it_t hc hM
        refine lv_sipush (pc := 43) (v := 8191) hx hb dM_layout_43 (by decide) ?_
        exact bM_layout_46 N _ C hrec14 _ _ _ _ hM _ _ hW _ (lv_sub hl [0, 1, 2] rfl)
      · replace hM := it_f hc hM
        refine lv_aload_n (pc := 30) hx hb dM_layout_30 rfl (lv_at hl 0 rfl) ?_
        refine gM (pc := 31) C hW 10 (by decide) q_1667 rfl rfl dM_layout_31 ?_
        refine lv_iload_n (pc := 34) hx hb dM_layout_34 rfl (lv_at hl 2 rfl) ?_
        obtain ⟨hg1, hM⟩ := gd_some hM
        refine x_ldI (pc := 35) C hW 6 rfl hg1 dM_layout_35 ?_
        refine lv_sipush (pc := 36) (v := 8191) hx hb dM_layout_36 (by decide) ?_
        refine lv_iand (pc := 39) hx hb dM_layout_39 ?_
        refine lv_goto (pc := 40) (tgt := 46) hx hb dM_layout_40 (by decide) ?_
        exact bM_layout_46 N _ C hrec14 _ _ _ _ hM _ _ hW _ (lv_sub hl [0, 1, 2] rfl)
def M_layout (N : Nat)  (σ : MS) : Option (Int32 × MS) :=
  bnd (sF σ 6 (0 : Int32)) (fun σ1 => bnd (sF σ1 7 (0 : Int32)) (fun σ2 => M_layout_14 N  N (0 : Int32) (0 : Int32) σ2))
set_option maxHeartbeats 4000000 in
set_option maxRecDepth 100000 in
theorem bM_layout_0 (N : Nat)  {r : Int32} {σ' : MS} (C : CxM p s m args meth c cM_layout 5 none D dA A)  (σ : MS) (hM : M_layout N   σ = some (r, σ')) (H : Heap) (locs : List Loc) (hW : WdM D dA h A s σ H locs) (ls : Array Slot) (hl : lv_has ls 5 [(0, .ref (h 0))]) : W p l e rm_layout s m args below meth c H locs 0 0 (MQ below (QM D dA h A σ' none) args s 0 0 A) (F0 m 0 ls []) := by
  have hx := C.1.1
  have hb := C.1.2.1
  have hown := C.1.2.2.2.2.1
  have hT := C.1.2.2.2.2.2.1
  unfold M_layout at hM
  refine lv_aload_n (pc := 0) hx hb dM_layout_0 rfl (lv_at hl 0 rfl) ?_
  refine lv_iconst (pc := 1) (v := 0) hx hb dM_layout_1 (by decide) ?_
  refine pM (pc := 2) (ty := .int) C hW 16 6 (by decide) q_1673 rfl rfl (by decide +kernel) rfl rfl (st_textSize dA h _ _) dM_layout_2 (fun H locs hW => ?_)
  obtain ⟨σ1, eσ1, hM⟩ := bnd_some hM
  rw [← eσ1] at hW
  refine lv_aload_n (pc := 5) hx hb dM_layout_5 rfl (lv_at hl 0 rfl) ?_
  refine lv_iconst (pc := 6) (v := 0) hx hb dM_layout_6 (by decide) ?_
  refine pM (pc := 7) (ty := .int) C hW 17 7 (by decide) q_1674 rfl rfl (by decide +kernel) rfl rfl (st_dataSize dA h _ _) dM_layout_7 (fun H locs hW => ?_)
  obtain ⟨σ2, eσ2, hM⟩ := bnd_some hM
  rw [← eσ2] at hW
  refine lv_iconst (pc := 10) (v := 0) hx hb dM_layout_10 (by decide) ?_
  refine lv_istore_n (pc := 11) (lv' := [(1, .int (0 : Int32)), (0, .ref (h 0))]) hx hb dM_layout_11 rfl hl (by decide) rfl (fun ls hl => ?_)
  refine lv_iconst (pc := 12) (v := 0) hx hb dM_layout_12 (by decide) ?_
  refine lv_istore_n (pc := 13) (lv' := [(2, .int (0 : Int32)), (1, .int (0 : Int32)), (0, .ref (h 0))]) hx hb dM_layout_13 rfl hl (by decide) rfl (fun ls hl => ?_)
  exact bM_layout_14 N  C  N _ _ _ hM _ _ hW _ (lv_sub hl [2, 1, 0] rfl)
theorem kM_layout (l : Launch) (D : va_G) (dA : Nat → ClassId) (h : Nat → Nat) (N : Nat)  (σ : MS) {r : Int32} {σ' : MS} (hM : M_layout N  σ = some (r, σ')) : KM l D dA yM_layout cM_layout 5 none rm_layout h σ [] none σ' := x_enterM rfl (Nat.le_of_ble_eq_true rfl) (fun p e s m args below meth c A C hW ls hl => bM_layout_0 N C  σ hM s.heap [] hW ls hl)
end
