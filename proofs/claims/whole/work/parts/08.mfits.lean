theorem q_1690 : (Jvm.Cond.fieldLink "LineAssemblerModel" (567 : Nat) "LineAssemblerModel" "grows" "Z") ∈ lw_gd := u_7 (List.mem_of_getElem? (i := 10) (by decide +kernel)) (by decide +kernel)
theorem q_1882 : (Jvm.Cond.methodLink "LineAssemblerModel" (640 : Nat) ({ cls := "LineAssemblerModel", name := "define", desc := "(IIII)V" } : Jvm.MethodName)) ∈ lw_gd := u_7 (List.mem_of_getElem? (i := 202) (by decide +kernel)) (by decide +kernel)
theorem q_1884 : (Jvm.Cond.instanceMethod ({ cls := "LineAssemblerModel", name := "define", desc := "(IIII)V" } : Jvm.MethodName)) ∈ lw_gd := u_7 (List.mem_of_getElem? (i := 204) (by decide +kernel)) (by decide +kernel)
theorem q_1885 : (Jvm.Cond.code ({ cls := "LineAssemblerModel", name := "define", desc := "(IIII)V" } : Jvm.MethodName) prog_14_method_24_code (5 : Nat) (Option.none : Option Jvm.ClassFile.FieldType)) ∈ lw_gd := u_7 (List.mem_of_getElem? (i := 205) (by decide +kernel)) (by decide +kernel)
theorem q_1913 : (Jvm.Cond.methodLink "LineAssemblerModel" (591 : Nat) ({ cls := "LineAssemblerModel", name := "comma", desc := "()Z" } : Jvm.MethodName)) ∈ lw_gd := u_7 (List.mem_of_getElem? (i := 233) (by decide +kernel)) (by decide +kernel)
theorem q_1915 : (Jvm.Cond.instanceMethod ({ cls := "LineAssemblerModel", name := "comma", desc := "()Z" } : Jvm.MethodName)) ∈ lw_gd := u_7 (List.mem_of_getElem? (i := 235) (by decide +kernel)) (by decide +kernel)
theorem q_1916 : (Jvm.Cond.code ({ cls := "LineAssemblerModel", name := "comma", desc := "()Z" } : Jvm.MethodName) prog_14_method_59_code (1 : Nat) (Option.some Jvm.ClassFile.FieldType.boolean)) ∈ lw_gd := u_7 (List.mem_of_getElem? (i := 236) (by decide +kernel)) (by decide +kernel)
theorem q_1917 : (Jvm.Cond.constant "LineAssemblerModel" (612 : Nat) (-2147483648 : Int32)) ∈ lw_gd := u_7 (List.mem_of_getElem? (i := 237) (by decide +kernel)) (by decide +kernel)
theorem q_1918 : (Jvm.Cond.constant "LineAssemblerModel" (613 : Nat) (2147483647 : Int32)) ∈ lw_gd := u_7 (List.mem_of_getElem? (i := 238) (by decide +kernel)) (by decide +kernel)
theorem q_1919 : (Jvm.Cond.methodLink "LineAssemblerModel" (614 : Nat) ({ cls := "LineAssemblerModel", name := "fixed", desc := "(II)I" } : Jvm.MethodName)) ∈ lw_gd := u_7 (List.mem_of_getElem? (i := 239) (by decide +kernel)) (by decide +kernel)
theorem q_1921 : (Jvm.Cond.instanceMethod ({ cls := "LineAssemblerModel", name := "fixed", desc := "(II)I" } : Jvm.MethodName)) ∈ lw_gd := u_8 (List.mem_of_getElem? (i := 1) (by decide +kernel)) (by decide +kernel)
theorem q_1922 : (Jvm.Cond.code ({ cls := "LineAssemblerModel", name := "fixed", desc := "(II)I" } : Jvm.MethodName) prog_14_method_39_code (4 : Nat) (Option.some Jvm.ClassFile.FieldType.int)) ∈ lw_gd := u_8 (List.mem_of_getElem? (i := 2) (by decide +kernel)) (by decide +kernel)
theorem q_1923 : (Jvm.Cond.methodLink "LineAssemblerModel" (534 : Nat) ({ cls := "LineAssemblerModel", name := "expression", desc := "()I" } : Jvm.MethodName)) ∈ lw_gd := u_8 (List.mem_of_getElem? (i := 3) (by decide +kernel)) (by decide +kernel)
theorem q_1925 : (Jvm.Cond.instanceMethod ({ cls := "LineAssemblerModel", name := "expression", desc := "()I" } : Jvm.MethodName)) ∈ lw_gd := u_8 (List.mem_of_getElem? (i := 5) (by decide +kernel)) (by decide +kernel)
theorem q_1926 : (Jvm.Cond.code ({ cls := "LineAssemblerModel", name := "expression", desc := "()I" } : Jvm.MethodName) prog_14_method_36_code (6 : Nat) (Option.some Jvm.ClassFile.FieldType.int)) ∈ lw_gd := u_8 (List.mem_of_getElem? (i := 6) (by decide +kernel)) (by decide +kernel)
theorem q_1985 : (Jvm.Cond.methodLink "LineAssemblerModel" (579 : Nat) ({ cls := "LineAssemblerModel", name := "word", desc := "(I)V" } : Jvm.MethodName)) ∈ lw_gd := u_8 (List.mem_of_getElem? (i := 65) (by decide +kernel)) (by decide +kernel)
theorem q_1987 : (Jvm.Cond.instanceMethod ({ cls := "LineAssemblerModel", name := "word", desc := "(I)V" } : Jvm.MethodName)) ∈ lw_gd := u_8 (List.mem_of_getElem? (i := 67) (by decide +kernel)) (by decide +kernel)
theorem q_1988 : (Jvm.Cond.code ({ cls := "LineAssemblerModel", name := "word", desc := "(I)V" } : Jvm.MethodName) prog_14_method_48_code (2 : Nat) (Option.none : Option Jvm.ClassFile.FieldType)) ∈ lw_gd := u_8 (List.mem_of_getElem? (i := 68) (by decide +kernel)) (by decide +kernel)
theorem q_1989 : (Jvm.Cond.methodLink "LineAssemblerModel" (556 : Nat) ({ cls := "LineAssemblerModel", name := "half", desc := "(I)V" } : Jvm.MethodName)) ∈ lw_gd := u_8 (List.mem_of_getElem? (i := 69) (by decide +kernel)) (by decide +kernel)
theorem q_1991 : (Jvm.Cond.instanceMethod ({ cls := "LineAssemblerModel", name := "half", desc := "(I)V" } : Jvm.MethodName)) ∈ lw_gd := u_8 (List.mem_of_getElem? (i := 71) (by decide +kernel)) (by decide +kernel)
theorem q_1992 : (Jvm.Cond.code ({ cls := "LineAssemblerModel", name := "half", desc := "(I)V" } : Jvm.MethodName) prog_14_method_47_code (2 : Nat) (Option.none : Option Jvm.ClassFile.FieldType)) ∈ lw_gd := u_8 (List.mem_of_getElem? (i := 72) (by decide +kernel)) (by decide +kernel)
theorem q_2001 : (Jvm.Cond.methodLink "LineAssemblerModel" (570 : Nat) ({ cls := "LineAssemblerModel", name := "target", desc := "(II)I" } : Jvm.MethodName)) ∈ lw_gd := u_8 (List.mem_of_getElem? (i := 81) (by decide +kernel)) (by decide +kernel)
theorem q_2003 : (Jvm.Cond.instanceMethod ({ cls := "LineAssemblerModel", name := "target", desc := "(II)I" } : Jvm.MethodName)) ∈ lw_gd := u_8 (List.mem_of_getElem? (i := 83) (by decide +kernel)) (by decide +kernel)
theorem q_2004 : (Jvm.Cond.code ({ cls := "LineAssemblerModel", name := "target", desc := "(II)I" } : Jvm.MethodName) prog_14_method_56_code (7 : Nat) (Option.some Jvm.ClassFile.FieldType.int)) ∈ lw_gd := u_8 (List.mem_of_getElem? (i := 84) (by decide +kernel)) (by decide +kernel)
theorem q_2005 : (Jvm.Cond.methodLink "LineAssemblerModel" (563 : Nat) ({ cls := "LineAssemblerModel", name := "level", desc := "()I" } : Jvm.MethodName)) ∈ lw_gd := u_8 (List.mem_of_getElem? (i := 85) (by decide +kernel)) (by decide +kernel)
theorem q_2007 : (Jvm.Cond.instanceMethod ({ cls := "LineAssemblerModel", name := "level", desc := "()I" } : Jvm.MethodName)) ∈ lw_gd := u_8 (List.mem_of_getElem? (i := 87) (by decide +kernel)) (by decide +kernel)
theorem q_2008 : (Jvm.Cond.code ({ cls := "LineAssemblerModel", name := "level", desc := "()I" } : Jvm.MethodName) prog_14_method_55_code (1 : Nat) (Option.some Jvm.ClassFile.FieldType.int)) ∈ lw_gd := u_8 (List.mem_of_getElem? (i := 88) (by decide +kernel)) (by decide +kernel)
theorem q_2009 : (Jvm.Cond.constant "LineAssemblerModel" (566 : Nat) (1048574 : Int32)) ∈ lw_gd := u_8 (List.mem_of_getElem? (i := 89) (by decide +kernel)) (by decide +kernel)
theorem q_2010 : (Jvm.Cond.methodLink "LineAssemblerModel" (537 : Nat) ({ cls := "LineAssemblerModel", name := "fits", desc := "(IIII)V" } : Jvm.MethodName)) ∈ lw_gd := u_8 (List.mem_of_getElem? (i := 90) (by decide +kernel)) (by decide +kernel)
theorem q_2012 : (Jvm.Cond.instanceMethod ({ cls := "LineAssemblerModel", name := "fits", desc := "(IIII)V" } : Jvm.MethodName)) ∈ lw_gd := u_8 (List.mem_of_getElem? (i := 92) (by decide +kernel)) (by decide +kernel)
theorem q_2013 : (Jvm.Cond.code ({ cls := "LineAssemblerModel", name := "fits", desc := "(IIII)V" } : Jvm.MethodName) prog_14_method_38_code (5 : Nat) (Option.none : Option Jvm.ClassFile.FieldType)) ∈ lw_gd := u_8 (List.mem_of_getElem? (i := 93) (by decide +kernel)) (by decide +kernel)
theorem q_2020 : (Jvm.Cond.methodLink "LineAssemblerModel" (576 : Nat) ({ cls := "LineAssemblerModel", name := "jumpBits", desc := "(I)I" } : Jvm.MethodName)) ∈ lw_gd := u_8 (List.mem_of_getElem? (i := 100) (by decide +kernel)) (by decide +kernel)
theorem q_2021 : (Jvm.Cond.static ({ cls := "LineAssemblerModel", name := "jumpBits", desc := "(I)I" } : Jvm.MethodName)) ∈ lw_gd := u_8 (List.mem_of_getElem? (i := 101) (by decide +kernel)) (by decide +kernel)
theorem q_2022 : (Jvm.Cond.code ({ cls := "LineAssemblerModel", name := "jumpBits", desc := "(I)I" } : Jvm.MethodName) prog_14_method_51_code (1 : Nat) (Option.some Jvm.ClassFile.FieldType.int)) ∈ lw_gd := u_8 (List.mem_of_getElem? (i := 102) (by decide +kernel)) (by decide +kernel)
theorem q_2032 : (Jvm.Cond.methodLink "LineAssemblerModel" (601 : Nat) ({ cls := "LineAssemblerModel", name := "behind", desc := "()I" } : Jvm.MethodName)) ∈ lw_gd := u_8 (List.mem_of_getElem? (i := 112) (by decide +kernel)) (by decide +kernel)
theorem q_2034 : (Jvm.Cond.instanceMethod ({ cls := "LineAssemblerModel", name := "behind", desc := "()I" } : Jvm.MethodName)) ∈ lw_gd := u_8 (List.mem_of_getElem? (i := 114) (by decide +kernel)) (by decide +kernel)
theorem q_2035 : (Jvm.Cond.code ({ cls := "LineAssemblerModel", name := "behind", desc := "()I" } : Jvm.MethodName) prog_14_method_42_code (1 : Nat) (Option.some Jvm.ClassFile.FieldType.int)) ∈ lw_gd := u_8 (List.mem_of_getElem? (i := 115) (by decide +kernel)) (by decide +kernel)
theorem q_2036 : (Jvm.Cond.methodLink "LineAssemblerModel" (604 : Nat) ({ cls := "LineAssemblerModel", name := "branch", desc := "(IIIZ)V" } : Jvm.MethodName)) ∈ lw_gd := u_8 (List.mem_of_getElem? (i := 116) (by decide +kernel)) (by decide +kernel)
theorem q_2038 : (Jvm.Cond.instanceMethod ({ cls := "LineAssemblerModel", name := "branch", desc := "(IIIZ)V" } : Jvm.MethodName)) ∈ lw_gd := u_8 (List.mem_of_getElem? (i := 118) (by decide +kernel)) (by decide +kernel)
theorem q_2039 : (Jvm.Cond.code ({ cls := "LineAssemblerModel", name := "branch", desc := "(IIIZ)V" } : Jvm.MethodName) prog_14_method_58_code (8 : Nat) (Option.none : Option Jvm.ClassFile.FieldType)) ∈ lw_gd := u_8 (List.mem_of_getElem? (i := 119) (by decide +kernel)) (by decide +kernel)
theorem q_2040 : (Jvm.Cond.methodLink "LineAssemblerModel" (582 : Nat) ({ cls := "LineAssemblerModel", name := "shortBranch", desc := "(I)I" } : Jvm.MethodName)) ∈ lw_gd := u_8 (List.mem_of_getElem? (i := 120) (by decide +kernel)) (by decide +kernel)
theorem q_2041 : (Jvm.Cond.static ({ cls := "LineAssemblerModel", name := "shortBranch", desc := "(I)I" } : Jvm.MethodName)) ∈ lw_gd := u_8 (List.mem_of_getElem? (i := 121) (by decide +kernel)) (by decide +kernel)
theorem q_2042 : (Jvm.Cond.code ({ cls := "LineAssemblerModel", name := "shortBranch", desc := "(I)I" } : Jvm.MethodName) prog_14_method_53_code (1 : Nat) (Option.some Jvm.ClassFile.FieldType.int)) ∈ lw_gd := u_8 (List.mem_of_getElem? (i := 122) (by decide +kernel)) (by decide +kernel)
theorem q_2043 : (Jvm.Cond.methodLink "LineAssemblerModel" (585 : Nat) ({ cls := "LineAssemblerModel", name := "branchBits", desc := "(I)I" } : Jvm.MethodName)) ∈ lw_gd := u_8 (List.mem_of_getElem? (i := 123) (by decide +kernel)) (by decide +kernel)
theorem q_2044 : (Jvm.Cond.static ({ cls := "LineAssemblerModel", name := "branchBits", desc := "(I)I" } : Jvm.MethodName)) ∈ lw_gd := u_8 (List.mem_of_getElem? (i := 124) (by decide +kernel)) (by decide +kernel)
theorem q_2045 : (Jvm.Cond.code ({ cls := "LineAssemblerModel", name := "branchBits", desc := "(I)I" } : Jvm.MethodName) prog_14_method_50_code (1 : Nat) (Option.some Jvm.ClassFile.FieldType.int)) ∈ lw_gd := u_8 (List.mem_of_getElem? (i := 125) (by decide +kernel)) (by decide +kernel)
theorem qs_67 : Cond.selects "LineAssemblerModel" (⟨"LineAssemblerModel", "define", "(IIII)V"⟩ : MethodName) ⟨"LineAssemblerModel", "define", "(IIII)V"⟩ ∈ lw_gd := lw_gds (List.mem_of_getElem? (i := 67) (by decide +kernel)) (by decide +kernel)
theorem qs_74 : Cond.selects "LineAssemblerModel" (⟨"LineAssemblerModel", "comma", "()Z"⟩ : MethodName) ⟨"LineAssemblerModel", "comma", "()Z"⟩ ∈ lw_gd := lw_gds (List.mem_of_getElem? (i := 74) (by decide +kernel)) (by decide +kernel)
theorem qs_75 : Cond.selects "LineAssemblerModel" (⟨"LineAssemblerModel", "fixed", "(II)I"⟩ : MethodName) ⟨"LineAssemblerModel", "fixed", "(II)I"⟩ ∈ lw_gd := lw_gds (List.mem_of_getElem? (i := 75) (by decide +kernel)) (by decide +kernel)
theorem qs_76 : Cond.selects "LineAssemblerModel" (⟨"LineAssemblerModel", "expression", "()I"⟩ : MethodName) ⟨"LineAssemblerModel", "expression", "()I"⟩ ∈ lw_gd := lw_gds (List.mem_of_getElem? (i := 76) (by decide +kernel)) (by decide +kernel)
theorem qs_90 : Cond.selects "LineAssemblerModel" (⟨"LineAssemblerModel", "word", "(I)V"⟩ : MethodName) ⟨"LineAssemblerModel", "word", "(I)V"⟩ ∈ lw_gd := lw_gds (List.mem_of_getElem? (i := 90) (by decide +kernel)) (by decide +kernel)
theorem qs_91 : Cond.selects "LineAssemblerModel" (⟨"LineAssemblerModel", "half", "(I)V"⟩ : MethodName) ⟨"LineAssemblerModel", "half", "(I)V"⟩ ∈ lw_gd := lw_gds (List.mem_of_getElem? (i := 91) (by decide +kernel)) (by decide +kernel)
theorem qs_94 : Cond.selects "LineAssemblerModel" (⟨"LineAssemblerModel", "target", "(II)I"⟩ : MethodName) ⟨"LineAssemblerModel", "target", "(II)I"⟩ ∈ lw_gd := lw_gds (List.mem_of_getElem? (i := 94) (by decide +kernel)) (by decide +kernel)
theorem qs_95 : Cond.selects "LineAssemblerModel" (⟨"LineAssemblerModel", "level", "()I"⟩ : MethodName) ⟨"LineAssemblerModel", "level", "()I"⟩ ∈ lw_gd := lw_gds (List.mem_of_getElem? (i := 95) (by decide +kernel)) (by decide +kernel)
theorem qs_96 : Cond.selects "LineAssemblerModel" (⟨"LineAssemblerModel", "fits", "(IIII)V"⟩ : MethodName) ⟨"LineAssemblerModel", "fits", "(IIII)V"⟩ ∈ lw_gd := lw_gds (List.mem_of_getElem? (i := 96) (by decide +kernel)) (by decide +kernel)
theorem qs_99 : Cond.selects "LineAssemblerModel" (⟨"LineAssemblerModel", "behind", "()I"⟩ : MethodName) ⟨"LineAssemblerModel", "behind", "()I"⟩ ∈ lw_gd := lw_gds (List.mem_of_getElem? (i := 99) (by decide +kernel)) (by decide +kernel)
theorem qs_100 : Cond.selects "LineAssemblerModel" (⟨"LineAssemblerModel", "branch", "(IIIZ)V"⟩ : MethodName) ⟨"LineAssemblerModel", "branch", "(IIIZ)V"⟩ ∈ lw_gd := lw_gds (List.mem_of_getElem? (i := 100) (by decide +kernel)) (by decide +kernel)
abbrev cM_fits : ByteArray := prog_14_method_38_code
def yM_fits : MethodName := ⟨RM, "fits", "(IIII)V"⟩
abbrev rm_fits : Room := { frames := 1, cells := 0, slots := 0, locals := 21 }
theorem dM_fits_0 : decode cM_fits 0 = .ok (.aload_n 0, 1) := by decide +kernel
theorem dM_fits_1 : decode cM_fits 1 = .ok (.getfield 531, 3) := by decide +kernel
theorem dM_fits_4 : decode cM_fits 4 = .ok (.iconst 2, 1) := by decide +kernel
theorem dM_fits_5 : decode cM_fits 5 = .ok (.if_icmp .ne (26), 3) := by decide +kernel
theorem dM_fits_8 : decode cM_fits 8 = .ok (.iload_n 1, 1) := by decide +kernel
theorem dM_fits_9 : decode cM_fits 9 = .ok (.iload_n 2, 1) := by decide +kernel
theorem dM_fits_10 : decode cM_fits 10 = .ok (.if_icmp .lt (15), 3) := by decide +kernel
theorem dM_fits_13 : decode cM_fits 13 = .ok (.iload_n 1, 1) := by decide +kernel
theorem dM_fits_14 : decode cM_fits 14 = .ok (.iload_n 3, 1) := by decide +kernel
theorem dM_fits_15 : decode cM_fits 15 = .ok (.if_icmp .gt (10), 3) := by decide +kernel
theorem dM_fits_18 : decode cM_fits 18 = .ok (.iload_n 1, 1) := by decide +kernel
theorem dM_fits_19 : decode cM_fits 19 = .ok (.iload 4, 2) := by decide +kernel
theorem dM_fits_21 : decode cM_fits 21 = .ok (.irem, 1) := by decide +kernel
theorem dM_fits_22 : decode cM_fits 22 = .ok (.ifCond .eq (9), 3) := by decide +kernel
theorem dM_fits_25 : decode cM_fits 25 = .ok (.aload_n 0, 1) := by decide +kernel
theorem dM_fits_26 : decode cM_fits 26 = .ok (.bipush 10, 2) := by decide +kernel
theorem dM_fits_28 : decode cM_fits 28 = .ok (.invokevirtual 429, 3) := by decide +kernel
theorem dM_fits_31 : decode cM_fits 31 = .ok (.return_, 1) := by decide +kernel
abbrev cM_target : ByteArray := prog_14_method_56_code
def yM_target : MethodName := ⟨RM, "target", "(II)I"⟩
abbrev rm_target : Room := { frames := 8, cells := 0, slots := 0, locals := 182 }
theorem dM_target_0 : decode cM_target 0 = .ok (.aload_n 0, 1) := by decide +kernel
theorem dM_target_1 : decode cM_target 1 = .ok (.invokevirtual 534, 3) := by decide +kernel
theorem dM_target_4 : decode cM_target 4 = .ok (.aload_n 0, 1) := by decide +kernel
theorem dM_target_5 : decode cM_target 5 = .ok (.getfield 495, 3) := by decide +kernel
theorem dM_target_8 : decode cM_target 8 = .ok (.isub, 1) := by decide +kernel
theorem dM_target_9 : decode cM_target 9 = .ok (.istore_n 3, 1) := by decide +kernel
theorem dM_target_10 : decode cM_target 10 = .ok (.aload_n 0, 1) := by decide +kernel
theorem dM_target_11 : decode cM_target 11 = .ok (.getfield 531, 3) := by decide +kernel
theorem dM_target_14 : decode cM_target 14 = .ok (.ifCond .ne (24), 3) := by decide +kernel
theorem dM_target_17 : decode cM_target 17 = .ok (.aload_n 0, 1) := by decide +kernel
theorem dM_target_18 : decode cM_target 18 = .ok (.getfield 330, 3) := by decide +kernel
theorem dM_target_21 : decode cM_target 21 = .ok (.aload_n 0, 1) := by decide +kernel
theorem dM_target_22 : decode cM_target 22 = .ok (.getfield 463, 3) := by decide +kernel
theorem dM_target_25 : decode cM_target 25 = .ok (.dup2, 1) := by decide +kernel
theorem dM_target_26 : decode cM_target 26 = .ok (.iaload, 1) := by decide +kernel
theorem dM_target_27 : decode cM_target 27 = .ok (.iload_n 1, 1) := by decide +kernel
theorem dM_target_28 : decode cM_target 28 = .ok (.bipush 16, 2) := by decide +kernel
theorem dM_target_30 : decode cM_target 30 = .ok (.ishl, 1) := by decide +kernel
theorem dM_target_31 : decode cM_target 31 = .ok (.iload_n 2, 1) := by decide +kernel
theorem dM_target_32 : decode cM_target 32 = .ok (.bipush 13, 2) := by decide +kernel
theorem dM_target_34 : decode cM_target 34 = .ok (.ishl, 1) := by decide +kernel
theorem dM_target_35 : decode cM_target 35 = .ok (.ior, 1) := by decide +kernel
theorem dM_target_36 : decode cM_target 36 = .ok (.ior, 1) := by decide +kernel
theorem dM_target_37 : decode cM_target 37 = .ok (.iastore, 1) := by decide +kernel
theorem dM_target_38 : decode cM_target 38 = .ok (.aload_n 0, 1) := by decide +kernel
theorem dM_target_39 : decode cM_target 39 = .ok (.getfield 531, 3) := by decide +kernel
theorem dM_target_42 : decode cM_target 42 = .ok (.ifCond .ne (7), 3) := by decide +kernel
theorem dM_target_45 : decode cM_target 45 = .ok (.iload_n 2, 1) := by decide +kernel
theorem dM_target_46 : decode cM_target 46 = .ok (.goto (7), 3) := by decide +kernel
theorem dM_target_49 : decode cM_target 49 = .ok (.aload_n 0, 1) := by decide +kernel
theorem dM_target_50 : decode cM_target 50 = .ok (.invokevirtual 563, 3) := by decide +kernel
theorem dM_target_53 : decode cM_target 53 = .ok (.istore 4, 2) := by decide +kernel
theorem dM_target_55 : decode cM_target 55 = .ok (.iload 4, 2) := by decide +kernel
theorem dM_target_57 : decode cM_target 57 = .ok (.iconst 2, 1) := by decide +kernel
theorem dM_target_58 : decode cM_target 58 = .ok (.if_icmp .ne (9), 3) := by decide +kernel
theorem dM_target_61 : decode cM_target 61 = .ok (.iload_n 3, 1) := by decide +kernel
theorem dM_target_62 : decode cM_target 62 = .ok (.iconst 4, 1) := by decide +kernel
theorem dM_target_63 : decode cM_target 63 = .ok (.isub, 1) := by decide +kernel
theorem dM_target_64 : decode cM_target 64 = .ok (.goto (4), 3) := by decide +kernel
theorem dM_target_67 : decode cM_target 67 = .ok (.iload_n 3, 1) := by decide +kernel
theorem dM_target_68 : decode cM_target 68 = .ok (.istore 5, 2) := by decide +kernel
theorem dM_target_70 : decode cM_target 70 = .ok (.iload 4, 2) := by decide +kernel
theorem dM_target_72 : decode cM_target 72 = .ok (.iconst 2, 1) := by decide +kernel
theorem dM_target_73 : decode cM_target 73 = .ok (.if_icmp .eq (14), 3) := by decide +kernel
theorem dM_target_76 : decode cM_target 76 = .ok (.iload 4, 2) := by decide +kernel
theorem dM_target_78 : decode cM_target 78 = .ok (.iconst 1, 1) := by decide +kernel
theorem dM_target_79 : decode cM_target 79 = .ok (.if_icmp .ne (14), 3) := by decide +kernel
theorem dM_target_82 : decode cM_target 82 = .ok (.iload_n 1, 1) := by decide +kernel
theorem dM_target_83 : decode cM_target 83 = .ok (.iconst 1, 1) := by decide +kernel
theorem dM_target_84 : decode cM_target 84 = .ok (.if_icmp .ne (9), 3) := by decide +kernel
theorem dM_target_87 : decode cM_target 87 = .ok (.ldc_w 566, 3) := by decide +kernel
theorem dM_target_90 : decode cM_target 90 = .ok (.goto (29), 3) := by decide +kernel
theorem dM_target_93 : decode cM_target 93 = .ok (.iload 4, 2) := by decide +kernel
theorem dM_target_95 : decode cM_target 95 = .ok (.iconst 1, 1) := by decide +kernel
theorem dM_target_96 : decode cM_target 96 = .ok (.if_icmp .ne (9), 3) := by decide +kernel
theorem dM_target_99 : decode cM_target 99 = .ok (.sipush 4094, 3) := by decide +kernel
theorem dM_target_102 : decode cM_target 102 = .ok (.goto (17), 3) := by decide +kernel
theorem dM_target_105 : decode cM_target 105 = .ok (.iload_n 1, 1) := by decide +kernel
theorem dM_target_106 : decode cM_target 106 = .ok (.iconst 1, 1) := by decide +kernel
theorem dM_target_107 : decode cM_target 107 = .ok (.if_icmp .ne (9), 3) := by decide +kernel
theorem dM_target_110 : decode cM_target 110 = .ok (.sipush 2046, 3) := by decide +kernel
theorem dM_target_113 : decode cM_target 113 = .ok (.goto (6), 3) := by decide +kernel
theorem dM_target_116 : decode cM_target 116 = .ok (.sipush 254, 3) := by decide +kernel
theorem dM_target_119 : decode cM_target 119 = .ok (.istore 6, 2) := by decide +kernel
theorem dM_target_121 : decode cM_target 121 = .ok (.aload_n 0, 1) := by decide +kernel
theorem dM_target_122 : decode cM_target 122 = .ok (.iload 5, 2) := by decide +kernel
theorem dM_target_124 : decode cM_target 124 = .ok (.iload 6, 2) := by decide +kernel
theorem dM_target_126 : decode cM_target 126 = .ok (.ineg, 1) := by decide +kernel
theorem dM_target_127 : decode cM_target 127 = .ok (.iconst 2, 1) := by decide +kernel
theorem dM_target_128 : decode cM_target 128 = .ok (.isub, 1) := by decide +kernel
theorem dM_target_129 : decode cM_target 129 = .ok (.iload 6, 2) := by decide +kernel
theorem dM_target_131 : decode cM_target 131 = .ok (.iconst 2, 1) := by decide +kernel
theorem dM_target_132 : decode cM_target 132 = .ok (.invokevirtual 537, 3) := by decide +kernel
theorem dM_target_135 : decode cM_target 135 = .ok (.aload_n 0, 1) := by decide +kernel
theorem dM_target_136 : decode cM_target 136 = .ok (.aload_n 0, 1) := by decide +kernel
theorem dM_target_137 : decode cM_target 137 = .ok (.getfield 531, 3) := by decide +kernel
theorem dM_target_140 : decode cM_target 140 = .ok (.iconst 1, 1) := by decide +kernel
theorem dM_target_141 : decode cM_target 141 = .ok (.if_icmp .ne (60), 3) := by decide +kernel
theorem dM_target_144 : decode cM_target 144 = .ok (.aload_n 0, 1) := by decide +kernel
theorem dM_target_145 : decode cM_target 145 = .ok (.getfield 466, 3) := by decide +kernel
theorem dM_target_148 : decode cM_target 148 = .ok (.ifCond .ne (53), 3) := by decide +kernel
theorem dM_target_151 : decode cM_target 151 = .ok (.aload_n 0, 1) := by decide +kernel
theorem dM_target_152 : decode cM_target 152 = .ok (.getfield 479, 3) := by decide +kernel
theorem dM_target_155 : decode cM_target 155 = .ok (.ifCond .ne (46), 3) := by decide +kernel
theorem dM_target_158 : decode cM_target 158 = .ok (.iload 4, 2) := by decide +kernel
theorem dM_target_160 : decode cM_target 160 = .ok (.iload_n 1, 1) := by decide +kernel
theorem dM_target_161 : decode cM_target 161 = .ok (.iconst 1, 1) := by decide +kernel
theorem dM_target_162 : decode cM_target 162 = .ok (.if_icmp .ne (7), 3) := by decide +kernel
theorem dM_target_165 : decode cM_target 165 = .ok (.iconst 1, 1) := by decide +kernel
theorem dM_target_166 : decode cM_target 166 = .ok (.goto (4), 3) := by decide +kernel
theorem dM_target_169 : decode cM_target 169 = .ok (.iconst 2, 1) := by decide +kernel
theorem dM_target_170 : decode cM_target 170 = .ok (.if_icmp .ge (31), 3) := by decide +kernel
theorem dM_target_173 : decode cM_target 173 = .ok (.iload 5, 2) := by decide +kernel
theorem dM_target_175 : decode cM_target 175 = .ok (.iload 6, 2) := by decide +kernel
theorem dM_target_177 : decode cM_target 177 = .ok (.ineg, 1) := by decide +kernel
theorem dM_target_178 : decode cM_target 178 = .ok (.iconst 2, 1) := by decide +kernel
theorem dM_target_179 : decode cM_target 179 = .ok (.isub, 1) := by decide +kernel
theorem dM_target_180 : decode cM_target 180 = .ok (.if_icmp .lt (17), 3) := by decide +kernel
theorem dM_target_183 : decode cM_target 183 = .ok (.iload 5, 2) := by decide +kernel
theorem dM_target_185 : decode cM_target 185 = .ok (.iload 6, 2) := by decide +kernel
theorem dM_target_187 : decode cM_target 187 = .ok (.if_icmp .gt (10), 3) := by decide +kernel
theorem dM_target_190 : decode cM_target 190 = .ok (.iload 5, 2) := by decide +kernel
theorem dM_target_192 : decode cM_target 192 = .ok (.iconst 2, 1) := by decide +kernel
theorem dM_target_193 : decode cM_target 193 = .ok (.irem, 1) := by decide +kernel
theorem dM_target_194 : decode cM_target 194 = .ok (.ifCond .eq (7), 3) := by decide +kernel
theorem dM_target_197 : decode cM_target 197 = .ok (.iconst 1, 1) := by decide +kernel
theorem dM_target_198 : decode cM_target 198 = .ok (.goto (4), 3) := by decide +kernel
theorem dM_target_201 : decode cM_target 201 = .ok (.iconst 0, 1) := by decide +kernel
theorem dM_target_202 : decode cM_target 202 = .ok (.putfield 567, 3) := by decide +kernel
theorem dM_target_205 : decode cM_target 205 = .ok (.iload_n 3, 1) := by decide +kernel
theorem dM_target_206 : decode cM_target 206 = .ok (.ireturn, 1) := by decide +kernel
abbrev cM_word : ByteArray := prog_14_method_48_code
def yM_word : MethodName := ⟨RM, "word", "(I)V"⟩
abbrev rm_word : Room := { frames := 2, cells := 0, slots := 0, locals := 42 }
theorem dM_word_0 : decode cM_word 0 = .ok (.aload_n 0, 1) := by decide +kernel
theorem dM_word_1 : decode cM_word 1 = .ok (.iload_n 1, 1) := by decide +kernel
theorem dM_word_2 : decode cM_word 2 = .ok (.invokevirtual 556, 3) := by decide +kernel
theorem dM_word_5 : decode cM_word 5 = .ok (.aload_n 0, 1) := by decide +kernel
theorem dM_word_6 : decode cM_word 6 = .ok (.iload_n 1, 1) := by decide +kernel
theorem dM_word_7 : decode cM_word 7 = .ok (.bipush 16, 2) := by decide +kernel
theorem dM_word_9 : decode cM_word 9 = .ok (.ishr, 1) := by decide +kernel
theorem dM_word_10 : decode cM_word 10 = .ok (.invokevirtual 556, 3) := by decide +kernel
theorem dM_word_13 : decode cM_word 13 = .ok (.return_, 1) := by decide +kernel
abbrev cM_branch : ByteArray := prog_14_method_58_code
def yM_branch : MethodName := ⟨RM, "branch", "(IIIZ)V"⟩
abbrev rm_branch : Room := { frames := 9, cells := 0, slots := 0, locals := 208 }
theorem dM_branch_0 : decode cM_branch 0 = .ok (.aload_n 0, 1) := by decide +kernel
theorem dM_branch_1 : decode cM_branch 1 = .ok (.iload 4, 2) := by decide +kernel
theorem dM_branch_3 : decode cM_branch 3 = .ok (.ifCond .eq (7), 3) := by decide +kernel
theorem dM_branch_6 : decode cM_branch 6 = .ok (.iconst 2, 1) := by decide +kernel
theorem dM_branch_7 : decode cM_branch 7 = .ok (.goto (4), 3) := by decide +kernel
theorem dM_branch_10 : decode cM_branch 10 = .ok (.iconst 3, 1) := by decide +kernel
theorem dM_branch_11 : decode cM_branch 11 = .ok (.iload 4, 2) := by decide +kernel
theorem dM_branch_13 : decode cM_branch 13 = .ok (.ifCond .eq (7), 3) := by decide +kernel
theorem dM_branch_16 : decode cM_branch 16 = .ok (.iconst 0, 1) := by decide +kernel
theorem dM_branch_17 : decode cM_branch 17 = .ok (.goto (4), 3) := by decide +kernel
theorem dM_branch_20 : decode cM_branch 20 = .ok (.iconst 1, 1) := by decide +kernel
theorem dM_branch_21 : decode cM_branch 21 = .ok (.invokevirtual 570, 3) := by decide +kernel
theorem dM_branch_24 : decode cM_branch 24 = .ok (.istore 5, 2) := by decide +kernel
theorem dM_branch_26 : decode cM_branch 26 = .ok (.aload_n 0, 1) := by decide +kernel
theorem dM_branch_27 : decode cM_branch 27 = .ok (.invokevirtual 563, 3) := by decide +kernel
theorem dM_branch_30 : decode cM_branch 30 = .ok (.istore 6, 2) := by decide +kernel
theorem dM_branch_32 : decode cM_branch 32 = .ok (.iload_n 2, 1) := by decide +kernel
theorem dM_branch_33 : decode cM_branch 33 = .ok (.bipush 15, 2) := by decide +kernel
theorem dM_branch_35 : decode cM_branch 35 = .ok (.ishl, 1) := by decide +kernel
theorem dM_branch_36 : decode cM_branch 36 = .ok (.iload_n 3, 1) := by decide +kernel
theorem dM_branch_37 : decode cM_branch 37 = .ok (.bipush 20, 2) := by decide +kernel
theorem dM_branch_39 : decode cM_branch 39 = .ok (.ishl, 1) := by decide +kernel
theorem dM_branch_40 : decode cM_branch 40 = .ok (.ior, 1) := by decide +kernel
theorem dM_branch_41 : decode cM_branch 41 = .ok (.istore 7, 2) := by decide +kernel
theorem dM_branch_43 : decode cM_branch 43 = .ok (.iload 6, 2) := by decide +kernel
theorem dM_branch_45 : decode cM_branch 45 = .ok (.ifCond .ne (46), 3) := by decide +kernel
theorem dM_branch_48 : decode cM_branch 48 = .ok (.aload_n 0, 1) := by decide +kernel
theorem dM_branch_49 : decode cM_branch 49 = .ok (.iconst 1, 1) := by decide +kernel
theorem dM_branch_50 : decode cM_branch 50 = .ok (.iload_n 1, 1) := by decide +kernel
theorem dM_branch_51 : decode cM_branch 51 = .ok (.bipush 12, 2) := by decide +kernel
theorem dM_branch_53 : decode cM_branch 53 = .ok (.ishr, 1) := by decide +kernel
theorem dM_branch_54 : decode cM_branch 54 = .ok (.bipush 7, 2) := by decide +kernel
theorem dM_branch_56 : decode cM_branch 56 = .ok (.iand, 1) := by decide +kernel
theorem dM_branch_57 : decode cM_branch 57 = .ok (.ifCond .ne (8), 3) := by decide +kernel
theorem dM_branch_60 : decode cM_branch 60 = .ok (.bipush 6, 2) := by decide +kernel
theorem dM_branch_62 : decode cM_branch 62 = .ok (.goto (5), 3) := by decide +kernel
theorem dM_branch_65 : decode cM_branch 65 = .ok (.bipush 7, 2) := by decide +kernel
theorem dM_branch_67 : decode cM_branch 67 = .ok (.bipush 13, 2) := by decide +kernel
theorem dM_branch_69 : decode cM_branch 69 = .ok (.ishl, 1) := by decide +kernel
theorem dM_branch_70 : decode cM_branch 70 = .ok (.ior, 1) := by decide +kernel
theorem dM_branch_71 : decode cM_branch 71 = .ok (.iload_n 2, 1) := by decide +kernel
theorem dM_branch_72 : decode cM_branch 72 = .ok (.bipush 8, 2) := by decide +kernel
theorem dM_branch_74 : decode cM_branch 74 = .ok (.isub, 1) := by decide +kernel
theorem dM_branch_75 : decode cM_branch 75 = .ok (.bipush 7, 2) := by decide +kernel
theorem dM_branch_77 : decode cM_branch 77 = .ok (.iand, 1) := by decide +kernel
theorem dM_branch_78 : decode cM_branch 78 = .ok (.bipush 7, 2) := by decide +kernel
theorem dM_branch_80 : decode cM_branch 80 = .ok (.ishl, 1) := by decide +kernel
theorem dM_branch_81 : decode cM_branch 81 = .ok (.ior, 1) := by decide +kernel
theorem dM_branch_82 : decode cM_branch 82 = .ok (.iload 5, 2) := by decide +kernel
theorem dM_branch_84 : decode cM_branch 84 = .ok (.invokestatic 582, 3) := by decide +kernel
theorem dM_branch_87 : decode cM_branch 87 = .ok (.ior, 1) := by decide +kernel
theorem dM_branch_88 : decode cM_branch 88 = .ok (.invokevirtual 556, 3) := by decide +kernel
theorem dM_branch_91 : decode cM_branch 91 = .ok (.iload 6, 2) := by decide +kernel
theorem dM_branch_93 : decode cM_branch 93 = .ok (.iconst 1, 1) := by decide +kernel
theorem dM_branch_94 : decode cM_branch 94 = .ok (.if_icmp .ne (17), 3) := by decide +kernel
theorem dM_branch_97 : decode cM_branch 97 = .ok (.aload_n 0, 1) := by decide +kernel
theorem dM_branch_98 : decode cM_branch 98 = .ok (.iload_n 1, 1) := by decide +kernel
theorem dM_branch_99 : decode cM_branch 99 = .ok (.iload 7, 2) := by decide +kernel
theorem dM_branch_101 : decode cM_branch 101 = .ok (.ior, 1) := by decide +kernel
theorem dM_branch_102 : decode cM_branch 102 = .ok (.iload 5, 2) := by decide +kernel
theorem dM_branch_104 : decode cM_branch 104 = .ok (.invokestatic 585, 3) := by decide +kernel
theorem dM_branch_107 : decode cM_branch 107 = .ok (.ior, 1) := by decide +kernel
theorem dM_branch_108 : decode cM_branch 108 = .ok (.invokevirtual 579, 3) := by decide +kernel
theorem dM_branch_111 : decode cM_branch 111 = .ok (.iload 6, 2) := by decide +kernel
theorem dM_branch_113 : decode cM_branch 113 = .ok (.iconst 2, 1) := by decide +kernel
theorem dM_branch_114 : decode cM_branch 114 = .ok (.if_icmp .ge (4), 3) := by decide +kernel
theorem dM_branch_117 : decode cM_branch 117 = .ok (.return_, 1) := by decide +kernel
theorem dM_branch_118 : decode cM_branch 118 = .ok (.aload_n 0, 1) := by decide +kernel
theorem dM_branch_119 : decode cM_branch 119 = .ok (.iload_n 1, 1) := by decide +kernel
theorem dM_branch_120 : decode cM_branch 120 = .ok (.sipush 4096, 3) := by decide +kernel
theorem dM_branch_123 : decode cM_branch 123 = .ok (.ixor, 1) := by decide +kernel
theorem dM_branch_124 : decode cM_branch 124 = .ok (.iload 7, 2) := by decide +kernel
theorem dM_branch_126 : decode cM_branch 126 = .ok (.ior, 1) := by decide +kernel
theorem dM_branch_127 : decode cM_branch 127 = .ok (.bipush 8, 2) := by decide +kernel
theorem dM_branch_129 : decode cM_branch 129 = .ok (.invokestatic 585, 3) := by decide +kernel
theorem dM_branch_132 : decode cM_branch 132 = .ok (.ior, 1) := by decide +kernel
theorem dM_branch_133 : decode cM_branch 133 = .ok (.invokevirtual 579, 3) := by decide +kernel
theorem dM_branch_136 : decode cM_branch 136 = .ok (.aload_n 0, 1) := by decide +kernel
theorem dM_branch_137 : decode cM_branch 137 = .ok (.bipush 111, 2) := by decide +kernel
theorem dM_branch_139 : decode cM_branch 139 = .ok (.iload 5, 2) := by decide +kernel
theorem dM_branch_141 : decode cM_branch 141 = .ok (.iconst 4, 1) := by decide +kernel
theorem dM_branch_142 : decode cM_branch 142 = .ok (.isub, 1) := by decide +kernel
theorem dM_branch_143 : decode cM_branch 143 = .ok (.invokestatic 576, 3) := by decide +kernel
theorem dM_branch_146 : decode cM_branch 146 = .ok (.ior, 1) := by decide +kernel
theorem dM_branch_147 : decode cM_branch 147 = .ok (.invokevirtual 579, 3) := by decide +kernel
theorem dM_branch_150 : decode cM_branch 150 = .ok (.return_, 1) := by decide +kernel
abbrev cM_comma : ByteArray := prog_14_method_59_code
def yM_comma : MethodName := ⟨RM, "comma", "()Z"⟩
abbrev rm_comma : Room := { frames := 6, cells := 0, slots := 0, locals := 135 }
theorem dM_comma_0 : decode cM_comma 0 = .ok (.aload_n 0, 1) := by decide +kernel
theorem dM_comma_1 : decode cM_comma 1 = .ok (.getfield 420, 3) := by decide +kernel
theorem dM_comma_4 : decode cM_comma 4 = .ok (.ifCond .ne (16), 3) := by decide +kernel
theorem dM_comma_7 : decode cM_comma 7 = .ok (.aload_n 0, 1) := by decide +kernel
theorem dM_comma_8 : decode cM_comma 8 = .ok (.bipush 44, 2) := by decide +kernel
theorem dM_comma_10 : decode cM_comma 10 = .ok (.invokevirtual 515, 3) := by decide +kernel
theorem dM_comma_13 : decode cM_comma 13 = .ok (.ifCond .eq (7), 3) := by decide +kernel
theorem dM_comma_16 : decode cM_comma 16 = .ok (.iconst 1, 1) := by decide +kernel
theorem dM_comma_17 : decode cM_comma 17 = .ok (.goto (4), 3) := by decide +kernel
theorem dM_comma_20 : decode cM_comma 20 = .ok (.iconst 0, 1) := by decide +kernel
theorem dM_comma_21 : decode cM_comma 21 = .ok (.ireturn, 1) := by decide +kernel
abbrev cM_branches : ByteArray := prog_14_method_61_code
def yM_branches : MethodName := ⟨RM, "branches", "(II)V"⟩
abbrev rm_branches : Room := { frames := 10, cells := 0, slots := 0, locals := 235 }
theorem dM_branches_0 : decode cM_branches 0 = .ok (.aload_n 0, 1) := by decide +kernel
theorem dM_branches_1 : decode cM_branches 1 = .ok (.invokevirtual 541, 3) := by decide +kernel
theorem dM_branches_4 : decode cM_branches 4 = .ok (.istore_n 3, 1) := by decide +kernel
theorem dM_branches_5 : decode cM_branches 5 = .ok (.iload_n 1, 1) := by decide +kernel
theorem dM_branches_6 : decode cM_branches 6 = .ok (.bipush 7, 2) := by decide +kernel
theorem dM_branches_8 : decode cM_branches 8 = .ok (.if_icmp .eq (9), 3) := by decide +kernel
theorem dM_branches_11 : decode cM_branches 11 = .ok (.iload_n 1, 1) := by decide +kernel
theorem dM_branches_12 : decode cM_branches 12 = .ok (.bipush 37, 2) := by decide +kernel
theorem dM_branches_14 : decode cM_branches 14 = .ok (.if_icmp .ne (10), 3) := by decide +kernel
theorem dM_branches_17 : decode cM_branches 17 = .ok (.aload_n 0, 1) := by decide +kernel
theorem dM_branches_18 : decode cM_branches 18 = .ok (.invokevirtual 601, 3) := by decide +kernel
theorem dM_branches_21 : decode cM_branches 21 = .ok (.goto (4), 3) := by decide +kernel
theorem dM_branches_24 : decode cM_branches 24 = .ok (.iconst 0, 1) := by decide +kernel
theorem dM_branches_25 : decode cM_branches 25 = .ok (.istore 4, 2) := by decide +kernel
theorem dM_branches_27 : decode cM_branches 27 = .ok (.aload_n 0, 1) := by decide +kernel
theorem dM_branches_28 : decode cM_branches 28 = .ok (.invokevirtual 591, 3) := by decide +kernel
theorem dM_branches_31 : decode cM_branches 31 = .ok (.ifCond .ne (4), 3) := by decide +kernel
theorem dM_branches_34 : decode cM_branches 34 = .ok (.return_, 1) := by decide +kernel
theorem dM_branches_35 : decode cM_branches 35 = .ok (.iload_n 1, 1) := by decide +kernel
theorem dM_branches_36 : decode cM_branches 36 = .ok (.bipush 35, 2) := by decide +kernel
theorem dM_branches_38 : decode cM_branches 38 = .ok (.if_icmp .ne (30), 3) := by decide +kernel
theorem dM_branches_41 : decode cM_branches 41 = .ok (.iload_n 2, 1) := by decide +kernel
theorem dM_branches_42 : decode cM_branches 42 = .ok (.bipush 12, 2) := by decide +kernel
theorem dM_branches_44 : decode cM_branches 44 = .ok (.ishr, 1) := by decide +kernel
theorem dM_branches_45 : decode cM_branches 45 = .ok (.bipush 7, 2) := by decide +kernel
theorem dM_branches_47 : decode cM_branches 47 = .ok (.iand, 1) := by decide +kernel
theorem dM_branches_48 : decode cM_branches 48 = .ok (.iconst 2, 1) := by decide +kernel
theorem dM_branches_49 : decode cM_branches 49 = .ok (.if_icmp .ge (19), 3) := by decide +kernel
theorem dM_branches_52 : decode cM_branches 52 = .ok (.iload_n 3, 1) := by decide +kernel
theorem dM_branches_53 : decode cM_branches 53 = .ok (.bipush 7, 2) := by decide +kernel
theorem dM_branches_55 : decode cM_branches 55 = .ok (.if_icmp .le (13), 3) := by decide +kernel
theorem dM_branches_58 : decode cM_branches 58 = .ok (.iload_n 3, 1) := by decide +kernel
theorem dM_branches_59 : decode cM_branches 59 = .ok (.bipush 16, 2) := by decide +kernel
theorem dM_branches_61 : decode cM_branches 61 = .ok (.if_icmp .ge (7), 3) := by decide +kernel
theorem dM_branches_64 : decode cM_branches 64 = .ok (.iconst 1, 1) := by decide +kernel
theorem dM_branches_65 : decode cM_branches 65 = .ok (.goto (4), 3) := by decide +kernel
theorem dM_branches_68 : decode cM_branches 68 = .ok (.iconst 0, 1) := by decide +kernel
theorem dM_branches_69 : decode cM_branches 69 = .ok (.istore 5, 2) := by decide +kernel
theorem dM_branches_71 : decode cM_branches 71 = .ok (.iload_n 1, 1) := by decide +kernel
theorem dM_branches_72 : decode cM_branches 72 = .ok (.bipush 7, 2) := by decide +kernel
theorem dM_branches_74 : decode cM_branches 74 = .ok (.if_icmp .eq (9), 3) := by decide +kernel
theorem dM_branches_77 : decode cM_branches 77 = .ok (.iload_n 1, 1) := by decide +kernel
theorem dM_branches_78 : decode cM_branches 78 = .ok (.bipush 35, 2) := by decide +kernel
theorem dM_branches_80 : decode cM_branches 80 = .ok (.if_icmp .ne (16), 3) := by decide +kernel
theorem dM_branches_83 : decode cM_branches 83 = .ok (.aload_n 0, 1) := by decide +kernel
theorem dM_branches_84 : decode cM_branches 84 = .ok (.iload_n 2, 1) := by decide +kernel
theorem dM_branches_85 : decode cM_branches 85 = .ok (.iload_n 3, 1) := by decide +kernel
theorem dM_branches_86 : decode cM_branches 86 = .ok (.iload 4, 2) := by decide +kernel
theorem dM_branches_88 : decode cM_branches 88 = .ok (.iload 5, 2) := by decide +kernel
theorem dM_branches_90 : decode cM_branches 90 = .ok (.invokevirtual 604, 3) := by decide +kernel
theorem dM_branches_93 : decode cM_branches 93 = .ok (.goto (12), 3) := by decide +kernel
theorem dM_branches_96 : decode cM_branches 96 = .ok (.aload_n 0, 1) := by decide +kernel
theorem dM_branches_97 : decode cM_branches 97 = .ok (.iload_n 2, 1) := by decide +kernel
theorem dM_branches_98 : decode cM_branches 98 = .ok (.iload 4, 2) := by decide +kernel
theorem dM_branches_100 : decode cM_branches 100 = .ok (.iload_n 3, 1) := by decide +kernel
theorem dM_branches_101 : decode cM_branches 101 = .ok (.iconst 0, 1) := by decide +kernel
theorem dM_branches_102 : decode cM_branches 102 = .ok (.invokevirtual 604, 3) := by decide +kernel
theorem dM_branches_105 : decode cM_branches 105 = .ok (.return_, 1) := by decide +kernel
abbrev cM_define : ByteArray := prog_14_method_24_code
def yM_define : MethodName := ⟨RM, "define", "(IIII)V"⟩
abbrev rm_define : Room := { frames := 0, cells := 0, slots := 0, locals := 0 }
theorem dM_define_0 : decode cM_define 0 = .ok (.aload_n 0, 1) := by decide +kernel
theorem dM_define_1 : decode cM_define 1 = .ok (.getfield 339, 3) := by decide +kernel
theorem dM_define_4 : decode cM_define 4 = .ok (.aload_n 0, 1) := by decide +kernel
theorem dM_define_5 : decode cM_define 5 = .ok (.getfield 449, 3) := by decide +kernel
theorem dM_define_8 : decode cM_define 8 = .ok (.iload_n 1, 1) := by decide +kernel
theorem dM_define_9 : decode cM_define 9 = .ok (.iload_n 3, 1) := by decide +kernel
theorem dM_define_10 : decode cM_define 10 = .ok (.bipush 13, 2) := by decide +kernel
theorem dM_define_12 : decode cM_define 12 = .ok (.ishl, 1) := by decide +kernel
theorem dM_define_13 : decode cM_define 13 = .ok (.ior, 1) := by decide +kernel
theorem dM_define_14 : decode cM_define 14 = .ok (.iastore, 1) := by decide +kernel
theorem dM_define_15 : decode cM_define 15 = .ok (.aload_n 0, 1) := by decide +kernel
theorem dM_define_16 : decode cM_define 16 = .ok (.getfield 342, 3) := by decide +kernel
theorem dM_define_19 : decode cM_define 19 = .ok (.aload_n 0, 1) := by decide +kernel
theorem dM_define_20 : decode cM_define 20 = .ok (.getfield 449, 3) := by decide +kernel
theorem dM_define_23 : decode cM_define 23 = .ok (.iload 4, 2) := by decide +kernel
theorem dM_define_25 : decode cM_define 25 = .ok (.iastore, 1) := by decide +kernel
theorem dM_define_26 : decode cM_define 26 = .ok (.aload_n 0, 1) := by decide +kernel
theorem dM_define_27 : decode cM_define 27 = .ok (.dup, 1) := by decide +kernel
theorem dM_define_28 : decode cM_define 28 = .ok (.getfield 449, 3) := by decide +kernel
theorem dM_define_31 : decode cM_define 31 = .ok (.iconst 1, 1) := by decide +kernel
theorem dM_define_32 : decode cM_define 32 = .ok (.iadd, 1) := by decide +kernel
theorem dM_define_33 : decode cM_define 33 = .ok (.putfield 449, 3) := by decide +kernel
theorem dM_define_36 : decode cM_define 36 = .ok (.return_, 1) := by decide +kernel
abbrev cM_fixed : ByteArray := prog_14_method_39_code
def yM_fixed : MethodName := ⟨RM, "fixed", "(II)I"⟩
abbrev rm_fixed : Room := { frames := 8, cells := 0, slots := 0, locals := 182 }
theorem dM_fixed_0 : decode cM_fixed 0 = .ok (.aload_n 0, 1) := by decide +kernel
theorem dM_fixed_1 : decode cM_fixed 1 = .ok (.invokevirtual 534, 3) := by decide +kernel
theorem dM_fixed_4 : decode cM_fixed 4 = .ok (.istore_n 3, 1) := by decide +kernel
theorem dM_fixed_5 : decode cM_fixed 5 = .ok (.aload_n 0, 1) := by decide +kernel
theorem dM_fixed_6 : decode cM_fixed 6 = .ok (.getfield 531, 3) := by decide +kernel
theorem dM_fixed_9 : decode cM_fixed 9 = .ok (.ifCond .ne (57), 3) := by decide +kernel
theorem dM_fixed_12 : decode cM_fixed 12 = .ok (.aload_n 0, 1) := by decide +kernel
theorem dM_fixed_13 : decode cM_fixed 13 = .ok (.getfield 420, 3) := by decide +kernel
theorem dM_fixed_16 : decode cM_fixed 16 = .ok (.ifCond .ne (50), 3) := by decide +kernel
theorem dM_fixed_19 : decode cM_fixed 19 = .ok (.aload_n 0, 1) := by decide +kernel
theorem dM_fixed_20 : decode cM_fixed 20 = .ok (.getfield 492, 3) := by decide +kernel
theorem dM_fixed_23 : decode cM_fixed 23 = .ok (.ifCond .eq (11), 3) := by decide +kernel
theorem dM_fixed_26 : decode cM_fixed 26 = .ok (.aload_n 0, 1) := by decide +kernel
theorem dM_fixed_27 : decode cM_fixed 27 = .ok (.iconst 5, 1) := by decide +kernel
theorem dM_fixed_28 : decode cM_fixed 28 = .ok (.invokevirtual 429, 3) := by decide +kernel
theorem dM_fixed_31 : decode cM_fixed 31 = .ok (.goto (35), 3) := by decide +kernel
theorem dM_fixed_34 : decode cM_fixed 34 = .ok (.aload_n 0, 1) := by decide +kernel
theorem dM_fixed_35 : decode cM_fixed 35 = .ok (.getfield 479, 3) := by decide +kernel
theorem dM_fixed_38 : decode cM_fixed 38 = .ok (.ifCond .eq (12), 3) := by decide +kernel
theorem dM_fixed_41 : decode cM_fixed 41 = .ok (.aload_n 0, 1) := by decide +kernel
theorem dM_fixed_42 : decode cM_fixed 42 = .ok (.bipush 9, 2) := by decide +kernel
theorem dM_fixed_44 : decode cM_fixed 44 = .ok (.invokevirtual 429, 3) := by decide +kernel
theorem dM_fixed_47 : decode cM_fixed 47 = .ok (.goto (19), 3) := by decide +kernel
theorem dM_fixed_50 : decode cM_fixed 50 = .ok (.iload_n 3, 1) := by decide +kernel
theorem dM_fixed_51 : decode cM_fixed 51 = .ok (.iload_n 1, 1) := by decide +kernel
theorem dM_fixed_52 : decode cM_fixed 52 = .ok (.if_icmp .lt (8), 3) := by decide +kernel
theorem dM_fixed_55 : decode cM_fixed 55 = .ok (.iload_n 3, 1) := by decide +kernel
theorem dM_fixed_56 : decode cM_fixed 56 = .ok (.iload_n 2, 1) := by decide +kernel
theorem dM_fixed_57 : decode cM_fixed 57 = .ok (.if_icmp .le (9), 3) := by decide +kernel
theorem dM_fixed_60 : decode cM_fixed 60 = .ok (.aload_n 0, 1) := by decide +kernel
theorem dM_fixed_61 : decode cM_fixed 61 = .ok (.bipush 6, 2) := by decide +kernel
theorem dM_fixed_63 : decode cM_fixed 63 = .ok (.invokevirtual 429, 3) := by decide +kernel
theorem dM_fixed_66 : decode cM_fixed 66 = .ok (.iload_n 3, 1) := by decide +kernel
theorem dM_fixed_67 : decode cM_fixed 67 = .ok (.ireturn, 1) := by decide +kernel
abbrev cM_constant : ByteArray := prog_14_method_69_code
def yM_constant : MethodName := ⟨RM, "constant", "()V"⟩
abbrev rm_constant : Room := { frames := 9, cells := 0, slots := 0, locals := 205 }
theorem dM_constant_0 : decode cM_constant 0 = .ok (.aload_n 0, 1) := by decide +kernel
theorem dM_constant_1 : decode cM_constant 1 = .ok (.iconst 1, 1) := by decide +kernel
theorem dM_constant_2 : decode cM_constant 2 = .ok (.invokevirtual 515, 3) := by decide +kernel
theorem dM_constant_5 : decode cM_constant 5 = .ok (.ifCond .ne (4), 3) := by decide +kernel
theorem dM_constant_8 : decode cM_constant 8 = .ok (.return_, 1) := by decide +kernel
theorem dM_constant_9 : decode cM_constant 9 = .ok (.aload_n 0, 1) := by decide +kernel
theorem dM_constant_10 : decode cM_constant 10 = .ok (.getfield 378, 3) := by decide +kernel
theorem dM_constant_13 : decode cM_constant 13 = .ok (.istore_n 1, 1) := by decide +kernel
theorem dM_constant_14 : decode cM_constant 14 = .ok (.aload_n 0, 1) := by decide +kernel
theorem dM_constant_15 : decode cM_constant 15 = .ok (.getfield 381, 3) := by decide +kernel
theorem dM_constant_18 : decode cM_constant 18 = .ok (.istore_n 2, 1) := by decide +kernel
theorem dM_constant_19 : decode cM_constant 19 = .ok (.aload_n 0, 1) := by decide +kernel
theorem dM_constant_20 : decode cM_constant 20 = .ok (.getfield 531, 3) := by decide +kernel
theorem dM_constant_23 : decode cM_constant 23 = .ok (.ifCond .ne (26), 3) := by decide +kernel
theorem dM_constant_26 : decode cM_constant 26 = .ok (.aload_n 0, 1) := by decide +kernel
theorem dM_constant_27 : decode cM_constant 27 = .ok (.iload_n 1, 1) := by decide +kernel
theorem dM_constant_28 : decode cM_constant 28 = .ok (.iload_n 2, 1) := by decide +kernel
theorem dM_constant_29 : decode cM_constant 29 = .ok (.invokevirtual 486, 3) := by decide +kernel
theorem dM_constant_32 : decode cM_constant 32 = .ok (.ifCond .ge (12), 3) := by decide +kernel
theorem dM_constant_35 : decode cM_constant 35 = .ok (.aload_n 0, 1) := by decide +kernel
theorem dM_constant_36 : decode cM_constant 36 = .ok (.iload_n 1, 1) := by decide +kernel
theorem dM_constant_37 : decode cM_constant 37 = .ok (.iload_n 2, 1) := by decide +kernel
theorem dM_constant_38 : decode cM_constant 38 = .ok (.invokevirtual 489, 3) := by decide +kernel
theorem dM_constant_41 : decode cM_constant 41 = .ok (.ifCond .lt (8), 3) := by decide +kernel
theorem dM_constant_44 : decode cM_constant 44 = .ok (.aload_n 0, 1) := by decide +kernel
theorem dM_constant_45 : decode cM_constant 45 = .ok (.iconst 4, 1) := by decide +kernel
theorem dM_constant_46 : decode cM_constant 46 = .ok (.invokevirtual 429, 3) := by decide +kernel
theorem dM_constant_49 : decode cM_constant 49 = .ok (.aload_n 0, 1) := by decide +kernel
theorem dM_constant_50 : decode cM_constant 50 = .ok (.invokevirtual 591, 3) := by decide +kernel
theorem dM_constant_53 : decode cM_constant 53 = .ok (.ifCond .ne (4), 3) := by decide +kernel
theorem dM_constant_56 : decode cM_constant 56 = .ok (.return_, 1) := by decide +kernel
theorem dM_constant_57 : decode cM_constant 57 = .ok (.aload_n 0, 1) := by decide +kernel
theorem dM_constant_58 : decode cM_constant 58 = .ok (.ldc_w 612, 3) := by decide +kernel
theorem dM_constant_61 : decode cM_constant 61 = .ok (.ldc_w 613, 3) := by decide +kernel
theorem dM_constant_64 : decode cM_constant 64 = .ok (.invokevirtual 614, 3) := by decide +kernel
theorem dM_constant_67 : decode cM_constant 67 = .ok (.istore_n 3, 1) := by decide +kernel
theorem dM_constant_68 : decode cM_constant 68 = .ok (.aload_n 0, 1) := by decide +kernel
theorem dM_constant_69 : decode cM_constant 69 = .ok (.getfield 531, 3) := by decide +kernel
theorem dM_constant_72 : decode cM_constant 72 = .ok (.ifCond .ne (18), 3) := by decide +kernel
theorem dM_constant_75 : decode cM_constant 75 = .ok (.aload_n 0, 1) := by decide +kernel
theorem dM_constant_76 : decode cM_constant 76 = .ok (.getfield 420, 3) := by decide +kernel
theorem dM_constant_79 : decode cM_constant 79 = .ok (.ifCond .ne (11), 3) := by decide +kernel
theorem dM_constant_82 : decode cM_constant 82 = .ok (.aload_n 0, 1) := by decide +kernel
theorem dM_constant_83 : decode cM_constant 83 = .ok (.iload_n 1, 1) := by decide +kernel
theorem dM_constant_84 : decode cM_constant 84 = .ok (.iload_n 2, 1) := by decide +kernel
theorem dM_constant_85 : decode cM_constant 85 = .ok (.iconst 2, 1) := by decide +kernel
theorem dM_constant_86 : decode cM_constant 86 = .ok (.iload_n 3, 1) := by decide +kernel
theorem dM_constant_87 : decode cM_constant 87 = .ok (.invokevirtual 640, 3) := by decide +kernel
theorem dM_constant_90 : decode cM_constant 90 = .ok (.return_, 1) := by decide +kernel
abbrev cM_isEnd : ByteArray := prog_14_method_45_code
def yM_isEnd : MethodName := ⟨RM, "isEnd", "()Z"⟩
abbrev rm_isEnd : Room := { frames := 5, cells := 0, slots := 0, locals := 114 }
theorem dM_isEnd_0 : decode cM_isEnd 0 = .ok (.aload_n 0, 1) := by decide +kernel
theorem dM_isEnd_1 : decode cM_isEnd 1 = .ok (.getfield 384, 3) := by decide +kernel
theorem dM_isEnd_4 : decode cM_isEnd 4 = .ok (.istore_n 1, 1) := by decide +kernel
theorem dM_isEnd_5 : decode cM_isEnd 5 = .ok (.aload_n 0, 1) := by decide +kernel
theorem dM_isEnd_6 : decode cM_isEnd 6 = .ok (.invokevirtual 426, 3) := by decide +kernel
theorem dM_isEnd_9 : decode cM_isEnd 9 = .ok (.aload_n 0, 1) := by decide +kernel
theorem dM_isEnd_10 : decode cM_isEnd 10 = .ok (.iload_n 1, 1) := by decide +kernel
theorem dM_isEnd_11 : decode cM_isEnd 11 = .ok (.putfield 384, 3) := by decide +kernel
theorem dM_isEnd_14 : decode cM_isEnd 14 = .ok (.aload_n 0, 1) := by decide +kernel
theorem dM_isEnd_15 : decode cM_isEnd 15 = .ok (.getfield 375, 3) := by decide +kernel
theorem dM_isEnd_18 : decode cM_isEnd 18 = .ok (.ifCond .ne (7), 3) := by decide +kernel
theorem dM_isEnd_21 : decode cM_isEnd 21 = .ok (.iconst 1, 1) := by decide +kernel
theorem dM_isEnd_22 : decode cM_isEnd 22 = .ok (.goto (4), 3) := by decide +kernel
theorem dM_isEnd_25 : decode cM_isEnd 25 = .ok (.iconst 0, 1) := by decide +kernel
theorem dM_isEnd_26 : decode cM_isEnd 26 = .ok (.ireturn, 1) := by decide +kernel
abbrev cM_quoted : ByteArray := prog_14_method_70_code
def yM_quoted : MethodName := ⟨RM, "quoted", "(Z)V"⟩
abbrev rm_quoted : Room := { frames := 6, cells := 0, slots := 0, locals := 135 }
theorem dM_quoted_0 : decode cM_quoted 0 = .ok (.aload_n 0, 1) := by decide +kernel
theorem dM_quoted_1 : decode cM_quoted 1 = .ok (.iconst 4, 1) := by decide +kernel
theorem dM_quoted_2 : decode cM_quoted 2 = .ok (.invokevirtual 515, 3) := by decide +kernel
theorem dM_quoted_5 : decode cM_quoted 5 = .ok (.ifCond .ne (4), 3) := by decide +kernel
theorem dM_quoted_8 : decode cM_quoted 8 = .ok (.return_, 1) := by decide +kernel
theorem dM_quoted_9 : decode cM_quoted 9 = .ok (.aload_n 0, 1) := by decide +kernel
theorem dM_quoted_10 : decode cM_quoted 10 = .ok (.getfield 381, 3) := by decide +kernel
theorem dM_quoted_13 : decode cM_quoted 13 = .ok (.istore_n 2, 1) := by decide +kernel
theorem dM_quoted_14 : decode cM_quoted 14 = .ok (.aload_n 0, 1) := by decide +kernel
theorem dM_quoted_15 : decode cM_quoted 15 = .ok (.getfield 378, 3) := by decide +kernel
theorem dM_quoted_18 : decode cM_quoted 18 = .ok (.iconst 1, 1) := by decide +kernel
theorem dM_quoted_19 : decode cM_quoted 19 = .ok (.iadd, 1) := by decide +kernel
theorem dM_quoted_20 : decode cM_quoted 20 = .ok (.istore_n 3, 1) := by decide +kernel
theorem dM_quoted_21 : decode cM_quoted 21 = .ok (.iload_n 3, 1) := by decide +kernel
theorem dM_quoted_22 : decode cM_quoted 22 = .ok (.iload_n 2, 1) := by decide +kernel
theorem dM_quoted_23 : decode cM_quoted 23 = .ok (.iconst 1, 1) := by decide +kernel
theorem dM_quoted_24 : decode cM_quoted 24 = .ok (.isub, 1) := by decide +kernel
theorem dM_quoted_25 : decode cM_quoted 25 = .ok (.if_icmp .ge (22), 3) := by decide +kernel
theorem dM_quoted_28 : decode cM_quoted 28 = .ok (.aload_n 0, 1) := by decide +kernel
theorem dM_quoted_29 : decode cM_quoted 29 = .ok (.aload_n 0, 1) := by decide +kernel
theorem dM_quoted_30 : decode cM_quoted 30 = .ok (.iload_n 3, 1) := by decide +kernel
theorem dM_quoted_31 : decode cM_quoted 31 = .ok (.bipush 34, 2) := by decide +kernel
theorem dM_quoted_33 : decode cM_quoted 33 = .ok (.invokevirtual 416, 3) := by decide +kernel
theorem dM_quoted_36 : decode cM_quoted 36 = .ok (.invokevirtual 553, 3) := by decide +kernel
theorem dM_quoted_39 : decode cM_quoted 39 = .ok (.aload_n 0, 1) := by decide +kernel
theorem dM_quoted_40 : decode cM_quoted 40 = .ok (.getfield 381, 3) := by decide +kernel
theorem dM_quoted_43 : decode cM_quoted 43 = .ok (.istore_n 3, 1) := by decide +kernel
theorem dM_quoted_44 : decode cM_quoted 44 = .ok (.goto (-23), 3) := by decide +kernel
theorem dM_quoted_47 : decode cM_quoted 47 = .ok (.aload_n 0, 1) := by decide +kernel
theorem dM_quoted_48 : decode cM_quoted 48 = .ok (.iload_n 2, 1) := by decide +kernel
theorem dM_quoted_49 : decode cM_quoted 49 = .ok (.putfield 384, 3) := by decide +kernel
theorem dM_quoted_52 : decode cM_quoted 52 = .ok (.iload_n 1, 1) := by decide +kernel
theorem dM_quoted_53 : decode cM_quoted 53 = .ok (.ifCond .eq (8), 3) := by decide +kernel
theorem dM_quoted_56 : decode cM_quoted 56 = .ok (.aload_n 0, 1) := by decide +kernel
theorem dM_quoted_57 : decode cM_quoted 57 = .ok (.iconst 0, 1) := by decide +kernel
theorem dM_quoted_58 : decode cM_quoted 58 = .ok (.invokevirtual 553, 3) := by decide +kernel
theorem dM_quoted_61 : decode cM_quoted 61 = .ok (.return_, 1) := by decide +kernel
theorem gM_behind_601 : GoodIn lw_gd (wsV RM 601 RM yM_behind (.code yM_behind cM_behind 1 (some .int) :: lw_gd)) := lw_GV q_2035 q_2032 q_2034 qs_99 q_23
theorem gM_branch_604 : GoodIn lw_gd (wsV RM 604 RM yM_branch (.code yM_branch cM_branch 8 none :: lw_gd)) := lw_GV q_2039 q_2036 q_2038 qs_100 q_23
theorem gM_branchBits_585 : GoodIn lw_gd (wsS RM 585 yM_branchBits (.code yM_branchBits cM_branchBits 1 (some .int) :: lw_gd)) := lw_GS q_2045 q_2043 q_2044 q_23
theorem gM_comma_591 : GoodIn lw_gd (wsV RM 591 RM yM_comma (.code yM_comma cM_comma 1 (some .boolean) :: lw_gd)) := lw_GV q_1916 q_1913 q_1915 qs_74 q_23
theorem gM_define_640 : GoodIn lw_gd (wsV RM 640 RM yM_define (.code yM_define cM_define 5 none :: lw_gd)) := lw_GV q_1885 q_1882 q_1884 qs_67 q_23
theorem gM_expression_534 : GoodIn lw_gd (wsV RM 534 RM yM_expression (.code yM_expression cM_expression 6 (some .int) :: lw_gd)) := lw_GV q_1926 q_1923 q_1925 qs_76 q_23
theorem gM_fits_537 : GoodIn lw_gd (wsV RM 537 RM yM_fits (.code yM_fits cM_fits 5 none :: lw_gd)) := lw_GV q_2013 q_2010 q_2012 qs_96 q_23
theorem gM_fixed_614 : GoodIn lw_gd (wsV RM 614 RM yM_fixed (.code yM_fixed cM_fixed 4 (some .int) :: lw_gd)) := lw_GV q_1922 q_1919 q_1921 qs_75 q_23
theorem gM_half_556 : GoodIn lw_gd (wsV RM 556 RM yM_half (.code yM_half cM_half 2 none :: lw_gd)) := lw_GV q_1992 q_1989 q_1991 qs_91 q_23
theorem gM_jumpBits_576 : GoodIn lw_gd (wsS RM 576 yM_jumpBits (.code yM_jumpBits cM_jumpBits 1 (some .int) :: lw_gd)) := lw_GS q_2022 q_2020 q_2021 q_23
theorem gM_level_563 : GoodIn lw_gd (wsV RM 563 RM yM_level (.code yM_level cM_level 1 (some .int) :: lw_gd)) := lw_GV q_2008 q_2005 q_2007 qs_95 q_23
theorem gM_shortBranch_582 : GoodIn lw_gd (wsS RM 582 yM_shortBranch (.code yM_shortBranch cM_shortBranch 1 (some .int) :: lw_gd)) := lw_GS q_2042 q_2040 q_2041 q_23
theorem gM_target_570 : GoodIn lw_gd (wsV RM 570 RM yM_target (.code yM_target cM_target 7 (some .int) :: lw_gd)) := lw_GV q_2004 q_2001 q_2003 qs_94 q_23
theorem gM_word_579 : GoodIn lw_gd (wsV RM 579 RM yM_word (.code yM_word cM_word 2 none :: lw_gd)) := lw_GV q_1988 q_1985 q_1987 qs_90 q_23
section
variable {p : Program} {l : Launch} {e : Env} {s : State} {m : MethodId} {args : Array Value} {below : List Frame} {meth : Method} {c : Code} {D : va_G} {dA : Nat → ClassId} {h : Nat → Nat} {A : Nat → Prop}
def M_fits_31  (σ : MS) : Option (Int32 × MS) :=
  some ((0 : Int32), σ)
set_option maxHeartbeats 4000000 in
set_option maxRecDepth 100000 in
theorem bM_fits_31  {r : Int32} {σ' : MS} (C : CxM p s m args meth c cM_fits 5 none D dA A)  (σ : MS) (hM : M_fits_31   σ = some (r, σ')) (H : Heap) (locs : List Loc) (hW : WdM D dA h A s σ H locs) (ls : Array Slot) (hl : lv_has ls 5 []) : W p l e rm_fits s m args below meth c H locs 0 0 (MQ below (QM D dA h A σ' none) args s 0 0 A) (F0 m 31 ls []) := by
  have hx := C.1.1
  have hb := C.1.2.1
  have hown := C.1.2.2.2.2.1
  have hT := C.1.2.2.2.2.2.1
  unfold M_fits_31 at hM
  obtain ⟨rfl, rfl⟩ := sm_p hM
  exact x_retMv (pc := 31) C rfl hW dM_fits_31
def M_fits_25  (σ : MS) : Option (Int32 × MS) :=
  cl (M_blame  (10 : Int32) σ) (fun r1 σ2 => M_fits_31  σ2)
set_option maxHeartbeats 4000000 in
set_option maxRecDepth 100000 in
theorem bM_fits_25  {r : Int32} {σ' : MS} (C : CxM p s m args meth c cM_fits 5 none D dA A)  (σ : MS) (hM : M_fits_25   σ = some (r, σ')) (H : Heap) (locs : List Loc) (hW : WdM D dA h A s σ H locs) (ls : Array Slot) (hl : lv_has ls 5 [(0, .ref (h 0))]) : W p l e rm_fits s m args below meth c H locs 0 0 (MQ below (QM D dA h A σ' none) args s 0 0 A) (F0 m 25 ls []) := by
  have hx := C.1.1
  have hb := C.1.2.1
  have hown := C.1.2.2.2.2.1
  have hT := C.1.2.2.2.2.2.1
  unfold M_fits_25 at hM
  refine lv_aload_n (pc := 25) hx hb dM_fits_25 rfl (lv_at hl 0 rfl) ?_
  refine lv_bipush (pc := 26) (v := 10) hx hb dM_fits_26 (by decide) ?_
  obtain ⟨r1, σ2, hr1, hM⟩ := cl_some hM
  refine x_callMv (pc := 28) C hW (kM_blame l D dA h  (10 : Int32) _ hr1) gM_blame_429 ⟨rfl, by decide, by decide, by decide +kernel⟩ ⟨rfl, rfl⟩ ⟨by decide, by decide⟩ ⟨by decide, by decide⟩ (As := [.int (10 : Int32)]) (n := 1) rfl hl.1 rfl (Nat.le_of_ble_eq_true rfl) dM_fits_28 (fun H locs hW => ?_)
  exact bM_fits_31  C   _ hM _ _ hW _ (lv_sub hl [] rfl)
def M_fits (x1 : Int32) (x2 : Int32) (x3 : Int32) (x4 : Int32) (σ : MS) : Option (Int32 × MS) :=
  (if (σ.1 17) = (2 : Int32) then (if x1 < x2 then M_fits_25  σ else (if x3 < x1 then M_fits_25  σ else gd (nz x4) ((if (jrem x1 x4) = 0 then M_fits_31  σ else M_fits_25  σ)))) else M_fits_31  σ)
set_option maxHeartbeats 4000000 in
set_option maxRecDepth 100000 in
theorem bM_fits_0  {r : Int32} {σ' : MS} (C : CxM p s m args meth c cM_fits 5 none D dA A) (x1 : Int32) (x2 : Int32) (x3 : Int32) (x4 : Int32) (σ : MS) (hM : M_fits  x1 x2 x3 x4 σ = some (r, σ')) (H : Heap) (locs : List Loc) (hW : WdM D dA h A s σ H locs) (ls : Array Slot) (hl : lv_has ls 5 [(0, .ref (h 0)), (1, .int x1), (2, .int x2), (3, .int x3), (4, .int x4)]) : W p l e rm_fits s m args below meth c H locs 0 0 (MQ below (QM D dA h A σ' none) args s 0 0 A) (F0 m 0 ls []) := by
  have hx := C.1.1
  have hb := C.1.2.1
  have hown := C.1.2.2.2.2.1
  have hT := C.1.2.2.2.2.2.1
  unfold M_fits at hM
  refine lv_aload_n (pc := 0) hx hb dM_fits_0 rfl (lv_at hl 0 rfl) ?_
  refine gM (pc := 1) C hW 27 (by decide) q_1684 rfl rfl dM_fits_1 ?_
  refine lv_iconst (pc := 4) (v := 2) hx hb dM_fits_4 (by decide) ?_
  refine lv_icmp_ne (pc := 5) (tgt := 31) hx hb dM_fits_5 (by decide) (fun hc => ?_) (fun hc => ?_)
  · replace hM := it_f hc hM
    exact bM_fits_31  C   _ hM _ _ hW _ (lv_sub hl [] rfl)
  · replace hM := it_t hc hM
    refine lv_iload_n (pc := 8) hx hb dM_fits_8 rfl (lv_at hl 1 rfl) ?_
    refine lv_iload_n (pc := 9) hx hb dM_fits_9 rfl (lv_at hl 2 rfl) ?_
    refine lv_icmp_lt (pc := 10) (tgt := 25) hx hb dM_fits_10 (by decide) (fun hc => ?_) (fun hc => ?_)
    · replace hM := it_t hc hM
      exact bM_fits_25  C   _ hM _ _ hW _ (lv_sub hl [0] rfl)
    · replace hM := it_f hc hM
      refine lv_iload_n (pc := 13) hx hb dM_fits_13 rfl (lv_at hl 1 rfl) ?_
      refine lv_iload_n (pc := 14) hx hb dM_fits_14 rfl (lv_at hl 3 rfl) ?_
      refine lv_icmp_gt (pc := 15) (tgt := 25) hx hb dM_fits_15 (by decide) (fun hc => ?_) (fun hc => ?_)
      · replace hM := it_t hc hM
        exact bM_fits_25  C   _ hM _ _ hW _ (lv_sub hl [0] rfl)
      · replace hM := it_f hc hM
        refine lv_iload_n (pc := 18) hx hb dM_fits_18 rfl (lv_at hl 1 rfl) ?_
        refine lv_iload (pc := 19) hx hb dM_fits_19 (lv_at hl 4 rfl) ?_
        obtain ⟨hg1, hM⟩ := gd_some hM
        refine lv_irem (pc := 21) hx hb dM_fits_21 (nz_ne hg1) ?_
        refine lv_if_eq (pc := 22) (tgt := 31) hx hb dM_fits_22 (by decide) (fun hc => ?_) (fun hc => ?_)
        · replace hM := it_t hc hM
          exact bM_fits_31  C   _ hM _ _ hW _ (lv_sub hl [] rfl)
        · replace hM := it_f hc hM
          exact bM_fits_25  C   _ hM _ _ hW _ (lv_sub hl [0] rfl)
theorem kM_fits (l : Launch) (D : va_G) (dA : Nat → ClassId) (h : Nat → Nat) (x1 : Int32) (x2 : Int32) (x3 : Int32) (x4 : Int32) (σ : MS) {r : Int32} {σ' : MS} (hM : M_fits x1 x2 x3 x4 σ = some (r, σ')) : KM l D dA yM_fits cM_fits 5 none rm_fits h σ [.int x1, .int x2, .int x3, .int x4] none σ' := x_enterM rfl (Nat.le_of_ble_eq_true rfl) (fun p e s m args below meth c A C hW ls hl => bM_fits_0 C x1 x2 x3 x4 σ hM s.heap [] hW ls hl)
def M_target_202 (N : Nat) (x3 : Int32) (t1 : Int32) (σ : MS) : Option (Int32 × MS) :=
  gd (isB t1) (bnd (sF σ 23 t1) (fun σ2 => some (x3, σ2)))
set_option maxHeartbeats 4000000 in
set_option maxRecDepth 100000 in
theorem bM_target_202 (N : Nat)  {r : Int32} {σ' : MS} (C : CxM p s m args meth c cM_target 7 (some .int) D dA A) (x3 : Int32) (t1 : Int32) (σ : MS) (hM : M_target_202 N  x3 t1 σ = some (r, σ')) (H : Heap) (locs : List Loc) (hW : WdM D dA h A s σ H locs) (ls : Array Slot) (hl : lv_has ls 7 [(3, .int x3)]) : W p l e rm_target s m args below meth c H locs 0 0 (MQ below (QM D dA h A σ' (some (.int r))) args s 0 0 A) (F0 m 202 ls [.int t1, .ref (h 0)]) := by
  have hx := C.1.1
  have hb := C.1.2.1
  have hown := C.1.2.2.2.2.1
  have hT := C.1.2.2.2.2.2.1
  unfold M_target_202 at hM
  obtain ⟨hg1, hM⟩ := gd_some hM
  refine pM (pc := 202) (ty := .boolean) C hW 33 23 (by decide) q_1690 rfl rfl (by decide +kernel) (isB_n hg1) (isB_f hg1) (st_grows dA h _ _) dM_target_202 (fun H locs hW => ?_)
  obtain ⟨σ2, eσ2, hM⟩ := bnd_some hM
  rw [← eσ2] at hW
  refine lv_iload_n (pc := 205) hx hb dM_target_205 rfl (lv_at hl 0 rfl) ?_
  obtain ⟨rfl, rfl⟩ := sm_p hM
  exact x_retMi (pc := 206) C rfl hW dM_target_206
def M_target_201 (N : Nat) (x3 : Int32) (σ : MS) : Option (Int32 × MS) :=
  M_target_202 N  x3 (0 : Int32) σ
set_option maxHeartbeats 4000000 in
set_option maxRecDepth 100000 in
theorem bM_target_201 (N : Nat)  {r : Int32} {σ' : MS} (C : CxM p s m args meth c cM_target 7 (some .int) D dA A) (x3 : Int32) (σ : MS) (hM : M_target_201 N  x3 σ = some (r, σ')) (H : Heap) (locs : List Loc) (hW : WdM D dA h A s σ H locs) (ls : Array Slot) (hl : lv_has ls 7 [(3, .int x3)]) : W p l e rm_target s m args below meth c H locs 0 0 (MQ below (QM D dA h A σ' (some (.int r))) args s 0 0 A) (F0 m 201 ls [.ref (h 0)]) := by
  have hx := C.1.1
  have hb := C.1.2.1
  have hown := C.1.2.2.2.2.1
  have hT := C.1.2.2.2.2.2.1
  unfold M_target_201 at hM
  refine lv_iconst (pc := 201) (v := 0) hx hb dM_target_201 (by decide) ?_
  exact bM_target_202 N  C  _ _ _ hM _ _ hW _ (lv_sub hl [0] rfl)
def M_target_197 (N : Nat) (x3 : Int32) (σ : MS) : Option (Int32 × MS) :=
  M_target_202 N  x3 (1 : Int32) σ
set_option maxHeartbeats 4000000 in
set_option maxRecDepth 100000 in
theorem bM_target_197 (N : Nat)  {r : Int32} {σ' : MS} (C : CxM p s m args meth c cM_target 7 (some .int) D dA A) (x3 : Int32) (σ : MS) (hM : M_target_197 N  x3 σ = some (r, σ')) (H : Heap) (locs : List Loc) (hW : WdM D dA h A s σ H locs) (ls : Array Slot) (hl : lv_has ls 7 [(3, .int x3)]) : W p l e rm_target s m args below meth c H locs 0 0 (MQ below (QM D dA h A σ' (some (.int r))) args s 0 0 A) (F0 m 197 ls [.ref (h 0)]) := by
  have hx := C.1.1
  have hb := C.1.2.1
  have hown := C.1.2.2.2.2.1
  have hT := C.1.2.2.2.2.2.1
  unfold M_target_197 at hM
  refine lv_iconst (pc := 197) (v := 1) hx hb dM_target_197 (by decide) ?_
  refine lv_goto (pc := 198) (tgt := 202) hx hb dM_target_198 (by decide) ?_
  exact bM_target_202 N  C  _ _ _ hM _ _ hW _ (lv_sub hl [0] rfl)
def M_target_170 (N : Nat) (x3 : Int32) (x5 : Int32) (x6 : Int32) (t1 : Int32) (t2 : Int32) (σ : MS) : Option (Int32 × MS) :=
  (if t2 ≤ t1 then M_target_201 N  x3 σ else (if x5 < ((-x6) - (2 : Int32)) then M_target_197 N  x3 σ else (if x6 < x5 then M_target_197 N  x3 σ else gd (nz (2 : Int32)) ((if (jrem x5 (2 : Int32)) = 0 then M_target_201 N  x3 σ else M_target_197 N  x3 σ)))))
set_option maxHeartbeats 4000000 in
set_option maxRecDepth 100000 in
theorem bM_target_170 (N : Nat)  {r : Int32} {σ' : MS} (C : CxM p s m args meth c cM_target 7 (some .int) D dA A) (x3 : Int32) (x5 : Int32) (x6 : Int32) (t1 : Int32) (t2 : Int32) (σ : MS) (hM : M_target_170 N  x3 x5 x6 t1 t2 σ = some (r, σ')) (H : Heap) (locs : List Loc) (hW : WdM D dA h A s σ H locs) (ls : Array Slot) (hl : lv_has ls 7 [(3, .int x3), (5, .int x5), (6, .int x6)]) : W p l e rm_target s m args below meth c H locs 0 0 (MQ below (QM D dA h A σ' (some (.int r))) args s 0 0 A) (F0 m 170 ls [.int t2, .int t1, .ref (h 0)]) := by
  have hx := C.1.1
  have hb := C.1.2.1
  have hown := C.1.2.2.2.2.1
  have hT := C.1.2.2.2.2.2.1
  unfold M_target_170 at hM
  refine lv_icmp_ge (pc := 170) (tgt := 201) hx hb dM_target_170 (by decide) (fun hc => ?_) (fun hc => ?_)
  · replace hM := it_t hc hM
    exact bM_target_201 N  C  _ _ hM _ _ hW _ (lv_sub hl [0] rfl)
  · replace hM := it_f hc hM
    refine lv_iload (pc := 173) hx hb dM_target_173 (lv_at hl 1 rfl) ?_
    refine lv_iload (pc := 175) hx hb dM_target_175 (lv_at hl 2 rfl) ?_
    refine lv_ineg (pc := 177) hx hb dM_target_177 ?_
    refine lv_iconst (pc := 178) (v := 2) hx hb dM_target_178 (by decide) ?_
    refine lv_isub (pc := 179) hx hb dM_target_179 ?_
    refine lv_icmp_lt (pc := 180) (tgt := 197) hx hb dM_target_180 (by decide) (fun hc => ?_) (fun hc => ?_)
    · replace hM := it_t hc hM
      exact bM_target_197 N  C  _ _ hM _ _ hW _ (lv_sub hl [0] rfl)
    · replace hM := it_f hc hM
      refine lv_iload (pc := 183) hx hb dM_target_183 (lv_at hl 1 rfl) ?_
      refine lv_iload (pc := 185) hx hb dM_target_185 (lv_at hl 2 rfl) ?_
      refine lv_icmp_gt (pc := 187) (tgt := 197) hx hb dM_target_187 (by decide) (fun hc => ?_) (fun hc => ?_)
      · replace hM := it_t hc hM
        exact bM_target_197 N  C  _ _ hM _ _ hW _ (lv_sub hl [0] rfl)
      · replace hM := it_f hc hM
        refine lv_iload (pc := 190) hx hb dM_target_190 (lv_at hl 1 rfl) ?_
        refine lv_iconst (pc := 192) (v := 2) hx hb dM_target_192 (by decide) ?_
        obtain ⟨hg1, hM⟩ := gd_some hM
        refine lv_irem (pc := 193) hx hb dM_target_193 (nz_ne hg1) ?_
        refine lv_if_eq (pc := 194) (tgt := 201) hx hb dM_target_194 (by decide) (fun hc => ?_) (fun hc => ?_)
        · replace hM := it_t hc hM
          exact bM_target_201 N  C  _ _ hM _ _ hW _ (lv_sub hl [0] rfl)
        · replace hM := it_f hc hM
          exact bM_target_197 N  C  _ _ hM _ _ hW _ (lv_sub hl [0] rfl)
def M_target_119 (N : Nat) (x1 : Int32) (x3 : Int32) (x4 : Int32) (x5 : Int32) (t0 : Int32) (σ : MS) : Option (Int32 × MS) :=
  cl (M_fits  x5 ((-t0) - (2 : Int32)) t0 (2 : Int32) σ) (fun r1 σ2 => (if (σ2.1 17) = (1 : Int32) then (if (σ2.1 24) = 0 then (if (σ2.1 25) = 0 then (if x1 = (1 : Int32) then M_target_170 N  x3 x5 t0 x4 (1 : Int32) σ2 else M_target_170 N  x3 x5 t0 x4 (2 : Int32) σ2) else M_target_201 N  x3 σ2) else M_target_201 N  x3 σ2) else M_target_201 N  x3 σ2))
set_option maxHeartbeats 4000000 in
set_option maxRecDepth 100000 in
theorem bM_target_119 (N : Nat)  {r : Int32} {σ' : MS} (C : CxM p s m args meth c cM_target 7 (some .int) D dA A) (x1 : Int32) (x3 : Int32) (x4 : Int32) (x5 : Int32) (t0 : Int32) (σ : MS) (hM : M_target_119 N  x1 x3 x4 x5 t0 σ = some (r, σ')) (H : Heap) (locs : List Loc) (hW : WdM D dA h A s σ H locs) (ls : Array Slot) (hl : lv_has ls 7 [(0, .ref (h 0)), (1, .int x1), (3, .int x3), (4, .int x4), (5, .int x5)]) : W p l e rm_target s m args below meth c H locs 0 0 (MQ below (QM D dA h A σ' (some (.int r))) args s 0 0 A) (F0 m 119 ls [.int t0]) := by
  have hx := C.1.1
  have hb := C.1.2.1
  have hown := C.1.2.2.2.2.1
  have hT := C.1.2.2.2.2.2.1
  unfold M_target_119 at hM
  refine lv_istore (pc := 119) (lv' := [(6, .int t0), (0, .ref (h 0)), (1, .int x1), (3, .int x3), (4, .int x4), (5, .int x5)]) hx hb dM_target_119 hl (by decide) rfl (fun ls hl => ?_)
  refine lv_aload_n (pc := 121) hx hb dM_target_121 rfl (lv_at hl 1 rfl) ?_
  refine lv_iload (pc := 122) hx hb dM_target_122 (lv_at hl 5 rfl) ?_
  refine lv_iload (pc := 124) hx hb dM_target_124 (lv_at hl 0 rfl) ?_
  refine lv_ineg (pc := 126) hx hb dM_target_126 ?_
  refine lv_iconst (pc := 127) (v := 2) hx hb dM_target_127 (by decide) ?_
  refine lv_isub (pc := 128) hx hb dM_target_128 ?_
  refine lv_iload (pc := 129) hx hb dM_target_129 (lv_at hl 0 rfl) ?_
  refine lv_iconst (pc := 131) (v := 2) hx hb dM_target_131 (by decide) ?_
  obtain ⟨r1, σ2, hr1, hM⟩ := cl_some hM
  refine x_callMv (pc := 132) C hW (kM_fits l D dA h  x5 ((-t0) - (2 : Int32)) t0 (2 : Int32) _ hr1) gM_fits_537 ⟨rfl, by decide, by decide, by decide +kernel⟩ ⟨rfl, rfl⟩ ⟨by decide, by decide⟩ ⟨by decide, by decide⟩ (As := [.int x5, .int ((-t0) - (2 : Int32)), .int t0, .int (2 : Int32)]) (n := 4) rfl hl.1 rfl (Nat.le_of_ble_eq_true rfl) dM_target_132 (fun H locs hW => ?_)
  refine lv_aload_n (pc := 135) hx hb dM_target_135 rfl (lv_at hl 1 rfl) ?_
  refine lv_aload_n (pc := 136) hx hb dM_target_136 rfl (lv_at hl 1 rfl) ?_
  refine gM (pc := 137) C hW 27 (by decide) q_1684 rfl rfl dM_target_137 ?_
  refine lv_iconst (pc := 140) (v := 1) hx hb dM_target_140 (by decide) ?_
  refine lv_icmp_ne (pc := 141) (tgt := 201) hx hb dM_target_141 (by decide) (fun hc => ?_) (fun hc => ?_)
  · replace hM := it_f hc hM
    exact bM_target_201 N  C  _ _ hM _ _ hW _ (lv_sub hl [3] rfl)
  · replace hM := it_t hc hM
    refine lv_aload_n (pc := 144) hx hb dM_target_144 rfl (lv_at hl 1 rfl) ?_
    refine gM (pc := 145) C hW 34 (by decide) q_1691 rfl rfl dM_target_145 ?_
    refine lv_if_ne (pc := 148) (tgt := 201) hx hb dM_target_148 (by decide) (fun hc => ?_) (fun hc => ?_)
    · replace hM := it_f hc hM
      exact bM_target_201 N  C  _ _ hM _ _ hW _ (lv_sub hl [3] rfl)
    · replace hM := it_t hc hM
      refine lv_aload_n (pc := 151) hx hb dM_target_151 rfl (lv_at hl 1 rfl) ?_
      refine gM (pc := 152) C hW 35 (by decide) q_1692 rfl rfl dM_target_152 ?_
      refine lv_if_ne (pc := 155) (tgt := 201) hx hb dM_target_155 (by decide) (fun hc => ?_) (fun hc => ?_)
      · replace hM := it_f hc hM
        exact bM_target_201 N  C  _ _ hM _ _ hW _ (lv_sub hl [3] rfl)
      · replace hM := it_t hc hM
        refine lv_iload (pc := 158) hx hb dM_target_158 (lv_at hl 4 rfl) ?_
        refine lv_iload_n (pc := 160) hx hb dM_target_160 rfl (lv_at hl 2 rfl) ?_
        refine lv_iconst (pc := 161) (v := 1) hx hb dM_target_161 (by decide) ?_
        refine lv_icmp_ne (pc := 162) (tgt := 169) hx hb dM_target_162 (by decide) (fun hc => ?_) (fun hc => ?_)
        · replace hM := it_f hc hM
          refine lv_iconst (pc := 169) (v := 2) hx hb dM_target_169 (by decide) ?_
          exact bM_target_170 N  C  _ _ _ _ _ _ hM _ _ hW _ (lv_sub hl [3, 5, 0] rfl)
        · replace hM := it_t hc hM
          refine lv_iconst (pc := 165) (v := 1) hx hb dM_target_165 (by decide) ?_
          refine lv_goto (pc := 166) (tgt := 170) hx hb dM_target_166 (by decide) ?_
          exact bM_target_170 N  C  _ _ _ _ _ _ hM _ _ hW _ (lv_sub hl [3, 5, 0] rfl)
def M_target_87 (N : Nat) (x1 : Int32) (x3 : Int32) (x4 : Int32) (x5 : Int32) (σ : MS) : Option (Int32 × MS) :=
  M_target_119 N  x1 x3 x4 x5 (1048574 : Int32) σ
set_option maxHeartbeats 4000000 in
set_option maxRecDepth 100000 in
theorem bM_target_87 (N : Nat)  {r : Int32} {σ' : MS} (C : CxM p s m args meth c cM_target 7 (some .int) D dA A) (x1 : Int32) (x3 : Int32) (x4 : Int32) (x5 : Int32) (σ : MS) (hM : M_target_87 N  x1 x3 x4 x5 σ = some (r, σ')) (H : Heap) (locs : List Loc) (hW : WdM D dA h A s σ H locs) (ls : Array Slot) (hl : lv_has ls 7 [(0, .ref (h 0)), (1, .int x1), (3, .int x3), (4, .int x4), (5, .int x5)]) : W p l e rm_target s m args below meth c H locs 0 0 (MQ below (QM D dA h A σ' (some (.int r))) args s 0 0 A) (F0 m 87 ls []) := by
  have hx := C.1.1
  have hb := C.1.2.1
  have hown := C.1.2.2.2.2.1
  have hT := C.1.2.2.2.2.2.1
  unfold M_target_87 at hM
  refine lv_ldcw (pc := 87) (v := 1048574) hx hb hown (hT _ q_2009) dM_target_87 ?_
  refine lv_goto (pc := 90) (tgt := 119) hx hb dM_target_90 (by decide) ?_
  exact bM_target_119 N  C  _ _ _ _ _ _ hM _ _ hW _ (lv_sub hl [0, 1, 2, 3, 4] rfl)
def M_target_93 (N : Nat) (x1 : Int32) (x3 : Int32) (x4 : Int32) (x5 : Int32) (σ : MS) : Option (Int32 × MS) :=
  (if x4 = (1 : Int32) then M_target_119 N  x1 x3 x4 x5 (4094 : Int32) σ else (if x1 = (1 : Int32) then M_target_119 N  x1 x3 x4 x5 (2046 : Int32) σ else M_target_119 N  x1 x3 x4 x5 (254 : Int32) σ))
set_option maxHeartbeats 4000000 in
set_option maxRecDepth 100000 in
theorem bM_target_93 (N : Nat)  {r : Int32} {σ' : MS} (C : CxM p s m args meth c cM_target 7 (some .int) D dA A) (x1 : Int32) (x3 : Int32) (x4 : Int32) (x5 : Int32) (σ : MS) (hM : M_target_93 N  x1 x3 x4 x5 σ = some (r, σ')) (H : Heap) (locs : List Loc) (hW : WdM D dA h A s σ H locs) (ls : Array Slot) (hl : lv_has ls 7 [(0, .ref (h 0)), (1, .int x1), (3, .int x3), (4, .int x4), (5, .int x5)]) : W p l e rm_target s m args below meth c H locs 0 0 (MQ below (QM D dA h A σ' (some (.int r))) args s 0 0 A) (F0 m 93 ls []) := by
  have hx := C.1.1
  have hb := C.1.2.1
  have hown := C.1.2.2.2.2.1
  have hT := C.1.2.2.2.2.2.1
  unfold M_target_93 at hM
  refine lv_iload (pc := 93) hx hb dM_target_93 (lv_at hl 3 rfl) ?_
  refine lv_iconst (pc := 95) (v := 1) hx hb dM_target_95 (by decide) ?_
  refine lv_icmp_ne (pc := 96) (tgt := 105) hx hb dM_target_96 (by decide) (fun hc => ?_) (fun hc => ?_)
  · replace hM := it_f hc hM
    refine lv_iload_n (pc := 105) hx hb dM_target_105 rfl (lv_at hl 1 rfl) ?_
    refine lv_iconst (pc := 106) (v := 1) hx hb dM_target_106 (by decide) ?_
    refine lv_icmp_ne (pc := 107) (tgt := 116) hx hb dM_target_107 (by decide) (fun hc => ?_) (fun hc => ?_)
    · replace hM := it_f hc hM
      refine lv_sipush (pc := 116) (v := 254) hx hb dM_target_116 (by decide) ?_
      exact bM_target_119 N  C  _ _ _ _ _ _ hM _ _ hW _ (lv_sub hl [0, 1, 2, 3, 4] rfl)
    · replace hM := it_t hc hM
      refine lv_sipush (pc := 110) (v := 2046) hx hb dM_target_110 (by decide) ?_
      refine lv_goto (pc := 113) (tgt := 119) hx hb dM_target_113 (by decide) ?_
      exact bM_target_119 N  C  _ _ _ _ _ _ hM _ _ hW _ (lv_sub hl [0, 1, 2, 3, 4] rfl)
  · replace hM := it_t hc hM
    refine lv_sipush (pc := 99) (v := 4094) hx hb dM_target_99 (by decide) ?_
    refine lv_goto (pc := 102) (tgt := 119) hx hb dM_target_102 (by decide) ?_
    exact bM_target_119 N  C  _ _ _ _ _ _ hM _ _ hW _ (lv_sub hl [0, 1, 2, 3, 4] rfl)
def M_target_68 (N : Nat) (x1 : Int32) (x3 : Int32) (x4 : Int32) (t0 : Int32) (σ : MS) : Option (Int32 × MS) :=
  (if x4 = (2 : Int32) then M_target_87 N  x1 x3 x4 t0 σ else (if x4 = (1 : Int32) then (if x1 = (1 : Int32) then M_target_87 N  x1 x3 x4 t0 σ else M_target_93 N  x1 x3 x4 t0 σ) else M_target_93 N  x1 x3 x4 t0 σ))
set_option maxHeartbeats 4000000 in
set_option maxRecDepth 100000 in
theorem bM_target_68 (N : Nat)  {r : Int32} {σ' : MS} (C : CxM p s m args meth c cM_target 7 (some .int) D dA A) (x1 : Int32) (x3 : Int32) (x4 : Int32) (t0 : Int32) (σ : MS) (hM : M_target_68 N  x1 x3 x4 t0 σ = some (r, σ')) (H : Heap) (locs : List Loc) (hW : WdM D dA h A s σ H locs) (ls : Array Slot) (hl : lv_has ls 7 [(0, .ref (h 0)), (1, .int x1), (3, .int x3), (4, .int x4)]) : W p l e rm_target s m args below meth c H locs 0 0 (MQ below (QM D dA h A σ' (some (.int r))) args s 0 0 A) (F0 m 68 ls [.int t0]) := by
  have hx := C.1.1
  have hb := C.1.2.1
  have hown := C.1.2.2.2.2.1
  have hT := C.1.2.2.2.2.2.1
  unfold M_target_68 at hM
  refine lv_istore (pc := 68) (lv' := [(5, .int t0), (0, .ref (h 0)), (1, .int x1), (3, .int x3), (4, .int x4)]) hx hb dM_target_68 hl (by decide) rfl (fun ls hl => ?_)
  refine lv_iload (pc := 70) hx hb dM_target_70 (lv_at hl 4 rfl) ?_
  refine lv_iconst (pc := 72) (v := 2) hx hb dM_target_72 (by decide) ?_
  refine lv_icmp_eq (pc := 73) (tgt := 87) hx hb dM_target_73 (by decide) (fun hc => ?_) (fun hc => ?_)
  · replace hM := it_t hc hM
    exact bM_target_87 N  C  _ _ _ _ _ hM _ _ hW _ (lv_sub hl [1, 2, 3, 4, 0] rfl)
  · replace hM := it_f hc hM
    refine lv_iload (pc := 76) hx hb dM_target_76 (lv_at hl 4 rfl) ?_
    refine lv_iconst (pc := 78) (v := 1) hx hb dM_target_78 (by decide) ?_
    refine lv_icmp_ne (pc := 79) (tgt := 93) hx hb dM_target_79 (by decide) (fun hc => ?_) (fun hc => ?_)
    · replace hM := it_f hc hM
      exact bM_target_93 N  C  _ _ _ _ _ hM _ _ hW _ (lv_sub hl [1, 2, 3, 4, 0] rfl)
    · replace hM := it_t hc hM
      refine lv_iload_n (pc := 82) hx hb dM_target_82 rfl (lv_at hl 2 rfl) ?_
      refine lv_iconst (pc := 83) (v := 1) hx hb dM_target_83 (by decide) ?_
      refine lv_icmp_ne (pc := 84) (tgt := 93) hx hb dM_target_84 (by decide) (fun hc => ?_) (fun hc => ?_)
      · replace hM := it_f hc hM
        exact bM_target_93 N  C  _ _ _ _ _ hM _ _ hW _ (lv_sub hl [1, 2, 3, 4, 0] rfl)
      · replace hM := it_t hc hM
        exact bM_target_87 N  C  _ _ _ _ _ hM _ _ hW _ (lv_sub hl [1, 2, 3, 4, 0] rfl)
def M_target_53 (N : Nat) (x1 : Int32) (x3 : Int32) (t0 : Int32) (σ : MS) : Option (Int32 × MS) :=
  (if t0 = (2 : Int32) then M_target_68 N  x1 x3 t0 (x3 - (4 : Int32)) σ else M_target_68 N  x1 x3 t0 x3 σ)
set_option maxHeartbeats 4000000 in
set_option maxRecDepth 100000 in
theorem bM_target_53 (N : Nat)  {r : Int32} {σ' : MS} (C : CxM p s m args meth c cM_target 7 (some .int) D dA A) (x1 : Int32) (x3 : Int32) (t0 : Int32) (σ : MS) (hM : M_target_53 N  x1 x3 t0 σ = some (r, σ')) (H : Heap) (locs : List Loc) (hW : WdM D dA h A s σ H locs) (ls : Array Slot) (hl : lv_has ls 7 [(0, .ref (h 0)), (1, .int x1), (3, .int x3)]) : W p l e rm_target s m args below meth c H locs 0 0 (MQ below (QM D dA h A σ' (some (.int r))) args s 0 0 A) (F0 m 53 ls [.int t0]) := by
  have hx := C.1.1
  have hb := C.1.2.1
  have hown := C.1.2.2.2.2.1
  have hT := C.1.2.2.2.2.2.1
  unfold M_target_53 at hM
  refine lv_istore (pc := 53) (lv' := [(4, .int t0), (0, .ref (h 0)), (1, .int x1), (3, .int x3)]) hx hb dM_target_53 hl (by decide) rfl (fun ls hl => ?_)
  refine lv_iload (pc := 55) hx hb dM_target_55 (lv_at hl 0 rfl) ?_
  refine lv_iconst (pc := 57) (v := 2) hx hb dM_target_57 (by decide) ?_
  refine lv_icmp_ne (pc := 58) (tgt := 67) hx hb dM_target_58 (by decide) (fun hc => ?_) (fun hc => ?_)
  · replace hM := it_f hc hM
    refine lv_iload_n (pc := 67) hx hb dM_target_67 rfl (lv_at hl 3 rfl) ?_
    exact bM_target_68 N  C  _ _ _ _ _ hM _ _ hW _ (lv_sub hl [1, 2, 3, 0] rfl)
  · replace hM := it_t hc hM
    refine lv_iload_n (pc := 61) hx hb dM_target_61 rfl (lv_at hl 3 rfl) ?_
    refine lv_iconst (pc := 62) (v := 4) hx hb dM_target_62 (by decide) ?_
    refine lv_isub (pc := 63) hx hb dM_target_63 ?_
    refine lv_goto (pc := 64) (tgt := 68) hx hb dM_target_64 (by decide) ?_
    exact bM_target_68 N  C  _ _ _ _ _ hM _ _ hW _ (lv_sub hl [1, 2, 3, 0] rfl)
def M_target_38 (N : Nat) (x1 : Int32) (x2 : Int32) (x3 : Int32) (σ : MS) : Option (Int32 × MS) :=
  (if (σ.1 17) = 0 then M_target_53 N  x1 x3 x2 σ else cr (M_level  σ) (fun r1 => M_target_53 N  x1 x3 r1 σ))
set_option maxHeartbeats 4000000 in
set_option maxRecDepth 100000 in
theorem bM_target_38 (N : Nat)  {r : Int32} {σ' : MS} (C : CxM p s m args meth c cM_target 7 (some .int) D dA A) (x1 : Int32) (x2 : Int32) (x3 : Int32) (σ : MS) (hM : M_target_38 N  x1 x2 x3 σ = some (r, σ')) (H : Heap) (locs : List Loc) (hW : WdM D dA h A s σ H locs) (ls : Array Slot) (hl : lv_has ls 7 [(0, .ref (h 0)), (1, .int x1), (2, .int x2), (3, .int x3)]) : W p l e rm_target s m args below meth c H locs 0 0 (MQ below (QM D dA h A σ' (some (.int r))) args s 0 0 A) (F0 m 38 ls []) := by
  have hx := C.1.1
  have hb := C.1.2.1
  have hown := C.1.2.2.2.2.1
  have hT := C.1.2.2.2.2.2.1
  unfold M_target_38 at hM
  refine lv_aload_n (pc := 38) hx hb dM_target_38 rfl (lv_at hl 0 rfl) ?_
  refine gM (pc := 39) C hW 27 (by decide) q_1684 rfl rfl dM_target_39 ?_
  refine lv_if_ne (pc := 42) (tgt := 49) hx hb dM_target_42 (by decide) (fun hc => ?_) (fun hc => ?_)
  · replace hM := it_f hc hM
    refine lv_aload_n (pc := 49) hx hb dM_target_49 rfl (lv_at hl 0 rfl) ?_
    obtain ⟨r1, hr1, hM⟩ := cr_some hM
    refine x_callRi (pc := 50) C hW (kM_level l D dA h  _ hr1) gM_level_563 ⟨rfl, by decide, by decide, by decide +kernel⟩ ⟨rfl, rfl⟩ ⟨by decide, by decide⟩ ⟨by decide, by decide⟩ (As := []) (n := 0) rfl hl.1 rfl (Nat.le_of_ble_eq_true rfl) dM_target_50 ?_
    exact bM_target_53 N  C  _ _ _ _ hM _ _ hW _ (lv_sub hl [0, 1, 3] rfl)
  · replace hM := it_t hc hM
    refine lv_iload_n (pc := 45) hx hb dM_target_45 rfl (lv_at hl 2 rfl) ?_
    refine lv_goto (pc := 46) (tgt := 53) hx hb dM_target_46 (by decide) ?_
    exact bM_target_53 N  C  _ _ _ _ hM _ _ hW _ (lv_sub hl [0, 1, 3] rfl)
def M_target (N : Nat) (x1 : Int32) (x2 : Int32) (σ : MS) : Option (Int32 × MS) :=
  cl (M_expression N σ) (fun r1 σ2 => (if (σ2.1 17) = 0 then gd (inB (σ2.1 18) 1030) (gd (inB (σ2.1 18) 1030) (bnd (sA σ2 2 (σ2.1 18).toNatClampNeg ((σ2.2 2 (σ2.1 18).toNatClampNeg) ||| ((x1 <<< ((16 : Int32) &&& 31)) ||| (x2 <<< ((13 : Int32) &&& 31))))) (fun σ5 => M_target_38 N  x1 x2 (r1 - (σ2.1 19)) σ5))) else M_target_38 N  x1 x2 (r1 - (σ2.1 19)) σ2))
set_option maxHeartbeats 4000000 in
set_option maxRecDepth 100000 in
theorem bM_target_0 (N : Nat)  {r : Int32} {σ' : MS} (C : CxM p s m args meth c cM_target 7 (some .int) D dA A) (x1 : Int32) (x2 : Int32) (σ : MS) (hM : M_target N  x1 x2 σ = some (r, σ')) (H : Heap) (locs : List Loc) (hW : WdM D dA h A s σ H locs) (ls : Array Slot) (hl : lv_has ls 7 [(0, .ref (h 0)), (1, .int x1), (2, .int x2)]) : W p l e rm_target s m args below meth c H locs 0 0 (MQ below (QM D dA h A σ' (some (.int r))) args s 0 0 A) (F0 m 0 ls []) := by
  have hx := C.1.1
  have hb := C.1.2.1
  have hown := C.1.2.2.2.2.1
  have hT := C.1.2.2.2.2.2.1
  unfold M_target at hM
  refine lv_aload_n (pc := 0) hx hb dM_target_0 rfl (lv_at hl 0 rfl) ?_
  obtain ⟨r1, σ2, hr1, hM⟩ := cl_some hM
  refine x_callMi (pc := 1) C hW (kM_expression l D dA h N _ hr1) gM_expression_534 ⟨rfl, by decide, by decide, by decide +kernel⟩ ⟨rfl, rfl⟩ ⟨by decide, by decide⟩ ⟨by decide, by decide⟩ (As := []) (n := 0) rfl hl.1 rfl (Nat.le_of_ble_eq_true rfl) dM_target_1 (fun H locs hW => ?_)
  refine lv_aload_n (pc := 4) hx hb dM_target_4 rfl (lv_at hl 0 rfl) ?_
  refine gM (pc := 5) C hW 29 (by decide) q_1686 rfl rfl dM_target_5 ?_
  refine lv_isub (pc := 8) hx hb dM_target_8 ?_
  refine lv_istore_n (pc := 9) (lv' := [(3, .int (r1 - (σ2.1 19))), (0, .ref (h 0)), (1, .int x1), (2, .int x2)]) hx hb dM_target_9 rfl hl (by decide) rfl (fun ls hl => ?_)
  refine lv_aload_n (pc := 10) hx hb dM_target_10 rfl (lv_at hl 1 rfl) ?_
  refine gM (pc := 11) C hW 27 (by decide) q_1684 rfl rfl dM_target_11 ?_
  refine lv_if_ne (pc := 14) (tgt := 38) hx hb dM_target_14 (by decide) (fun hc => ?_) (fun hc => ?_)
  · replace hM := it_f hc hM
    exact bM_target_38 N  C  _ _ _ _ hM _ _ hW _ (lv_sub hl [1, 2, 3, 0] rfl)
  · replace hM := it_t hc hM
    refine lv_aload_n (pc := 17) hx hb dM_target_17 rfl (lv_at hl 1 rfl) ?_
    refine gM (pc := 18) C hW 10 (by decide) q_1667 rfl rfl dM_target_18 ?_
    refine lv_aload_n (pc := 21) hx hb dM_target_21 rfl (lv_at hl 1 rfl) ?_
    refine gM (pc := 22) C hW 28 (by decide) q_1685 rfl rfl dM_target_22 ?_
    refine lv_dup2_11 (pc := 25) hx hb dM_target_25 rfl rfl ?_
    obtain ⟨hg3, hM⟩ := gd_some hM
    refine x_ldI (pc := 26) C hW 6 rfl hg3 dM_target_26 ?_
    refine lv_iload_n (pc := 27) hx hb dM_target_27 rfl (lv_at hl 2 rfl) ?_
    refine lv_bipush (pc := 28) (v := 16) hx hb dM_target_28 (by decide) ?_
    refine lv_ishl (pc := 30) hx hb dM_target_30 ?_
    refine lv_iload_n (pc := 31) hx hb dM_target_31 rfl (lv_at hl 3 rfl) ?_
    refine lv_bipush (pc := 32) (v := 13) hx hb dM_target_32 (by decide) ?_
    refine lv_ishl (pc := 34) hx hb dM_target_34 ?_
    refine lv_ior (pc := 35) hx hb dM_target_35 ?_
    refine lv_ior (pc := 36) hx hb dM_target_36 ?_
    obtain ⟨hg4, hM⟩ := gd_some hM
    refine x_stI (pc := 37) C hW 6 2 rfl hg4 (sa_place dA h _ _ _) dM_target_37 (fun H locs hW => ?_)
    obtain ⟨σ5, eσ5, hM⟩ := bnd_some hM
    rw [← eσ5] at hW
    exact bM_target_38 N  C  _ _ _ _ hM _ _ hW _ (lv_sub hl [1, 2, 3, 0] rfl)
theorem kM_target (l : Launch) (D : va_G) (dA : Nat → ClassId) (h : Nat → Nat) (N : Nat) (x1 : Int32) (x2 : Int32) (σ : MS) {r : Int32} {σ' : MS} (hM : M_target N x1 x2 σ = some (r, σ')) : KM l D dA yM_target cM_target 7 (some .int) rm_target h σ [.int x1, .int x2] (some (.int r)) σ' := x_enterM rfl (Nat.le_of_ble_eq_true rfl) (fun p e s m args below meth c A C hW ls hl => bM_target_0 N C x1 x2 σ hM s.heap [] hW ls hl)
def M_word (x1 : Int32) (σ : MS) : Option (Int32 × MS) :=
  cl (M_half  x1 σ) (fun r1 σ2 => cl (M_half  (x1 >>> ((16 : Int32) &&& 31)) σ2) (fun r3 σ4 => some ((0 : Int32), σ4)))
set_option maxHeartbeats 4000000 in
set_option maxRecDepth 100000 in
theorem bM_word_0  {r : Int32} {σ' : MS} (C : CxM p s m args meth c cM_word 2 none D dA A) (x1 : Int32) (σ : MS) (hM : M_word  x1 σ = some (r, σ')) (H : Heap) (locs : List Loc) (hW : WdM D dA h A s σ H locs) (ls : Array Slot) (hl : lv_has ls 2 [(0, .ref (h 0)), (1, .int x1)]) : W p l e rm_word s m args below meth c H locs 0 0 (MQ below (QM D dA h A σ' none) args s 0 0 A) (F0 m 0 ls []) := by
  have hx := C.1.1
  have hb := C.1.2.1
  have hown := C.1.2.2.2.2.1
  have hT := C.1.2.2.2.2.2.1
  unfold M_word at hM
  refine lv_aload_n (pc := 0) hx hb dM_word_0 rfl (lv_at hl 0 rfl) ?_
  refine lv_iload_n (pc := 1) hx hb dM_word_1 rfl (lv_at hl 1 rfl) ?_
  obtain ⟨r1, σ2, hr1, hM⟩ := cl_some hM
  refine x_callMv (pc := 2) C hW (kM_half l D dA h  x1 _ hr1) gM_half_556 ⟨rfl, by decide, by decide, by decide +kernel⟩ ⟨rfl, rfl⟩ ⟨by decide, by decide⟩ ⟨by decide, by decide⟩ (As := [.int x1]) (n := 1) rfl hl.1 rfl (Nat.le_of_ble_eq_true rfl) dM_word_2 (fun H locs hW => ?_)
  refine lv_aload_n (pc := 5) hx hb dM_word_5 rfl (lv_at hl 0 rfl) ?_
  refine lv_iload_n (pc := 6) hx hb dM_word_6 rfl (lv_at hl 1 rfl) ?_
  refine lv_bipush (pc := 7) (v := 16) hx hb dM_word_7 (by decide) ?_
  refine lv_ishr (pc := 9) hx hb dM_word_9 ?_
  obtain ⟨r3, σ4, hr3, hM⟩ := cl_some hM
  refine x_callMv (pc := 10) C hW (kM_half l D dA h  (x1 >>> ((16 : Int32) &&& 31)) _ hr3) gM_half_556 ⟨rfl, by decide, by decide, by decide +kernel⟩ ⟨rfl, rfl⟩ ⟨by decide, by decide⟩ ⟨by decide, by decide⟩ (As := [.int (x1 >>> ((16 : Int32) &&& 31))]) (n := 1) rfl hl.1 rfl (Nat.le_of_ble_eq_true rfl) dM_word_10 (fun H locs hW => ?_)
  obtain ⟨rfl, rfl⟩ := sm_p hM
  exact x_retMv (pc := 13) C rfl hW dM_word_13
theorem kM_word (l : Launch) (D : va_G) (dA : Nat → ClassId) (h : Nat → Nat) (x1 : Int32) (σ : MS) {r : Int32} {σ' : MS} (hM : M_word x1 σ = some (r, σ')) : KM l D dA yM_word cM_word 2 none rm_word h σ [.int x1] none σ' := x_enterM rfl (Nat.le_of_ble_eq_true rfl) (fun p e s m args below meth c A C hW ls hl => bM_word_0 C x1 σ hM s.heap [] hW ls hl)
def M_branch_111 (N : Nat) (x1 : Int32) (x5 : Int32) (x6 : Int32) (x7 : Int32) (σ : MS) : Option (Int32 × MS) :=
  (if (2 : Int32) ≤ x6 then cr (M_branchBits  (8 : Int32)) (fun r1 => cl (M_word  (((x1 ^^^ (4096 : Int32)) ||| x7) ||| r1) σ) (fun r2 σ3 => cr (M_jumpBits  (x5 - (4 : Int32))) (fun r4 => cl (M_word  ((111 : Int32) ||| r4) σ3) (fun r5 σ6 => some ((0 : Int32), σ6))))) else some ((0 : Int32), σ))
set_option maxHeartbeats 4000000 in
set_option maxRecDepth 100000 in
theorem bM_branch_111 (N : Nat)  {r : Int32} {σ' : MS} (C : CxM p s m args meth c cM_branch 8 none D dA A) (x1 : Int32) (x5 : Int32) (x6 : Int32) (x7 : Int32) (σ : MS) (hM : M_branch_111 N  x1 x5 x6 x7 σ = some (r, σ')) (H : Heap) (locs : List Loc) (hW : WdM D dA h A s σ H locs) (ls : Array Slot) (hl : lv_has ls 8 [(0, .ref (h 0)), (1, .int x1), (5, .int x5), (6, .int x6), (7, .int x7)]) : W p l e rm_branch s m args below meth c H locs 0 0 (MQ below (QM D dA h A σ' none) args s 0 0 A) (F0 m 111 ls []) := by
  have hx := C.1.1
  have hb := C.1.2.1
  have hown := C.1.2.2.2.2.1
  have hT := C.1.2.2.2.2.2.1
  unfold M_branch_111 at hM
  refine lv_iload (pc := 111) hx hb dM_branch_111 (lv_at hl 3 rfl) ?_
  refine lv_iconst (pc := 113) (v := 2) hx hb dM_branch_113 (by decide) ?_
  refine lv_icmp_ge (pc := 114) (tgt := 118) hx hb dM_branch_114 (by decide) (fun hc => ?_) (fun hc => ?_)
  · replace hM := it_t hc hM
    refine lv_aload_n (pc := 118) hx hb dM_branch_118 rfl (lv_at hl 0 rfl) ?_
    refine lv_iload_n (pc := 119) hx hb dM_branch_119 rfl (lv_at hl 1 rfl) ?_
    refine lv_sipush (pc := 120) (v := 4096) hx hb dM_branch_120 (by decide) ?_
    refine lv_ixor (pc := 123) hx hb dM_branch_123 ?_
    refine lv_iload (pc := 124) hx hb dM_branch_124 (lv_at hl 4 rfl) ?_
    refine lv_ior (pc := 126) hx hb dM_branch_126 ?_
    refine lv_bipush (pc := 127) (v := 8) hx hb dM_branch_127 (by decide) ?_
    obtain ⟨r1, hr1, hM⟩ := cr_some hM
    refine x_callSi (pc := 129) C.1 (kM_branchBits l  (8 : Int32) hr1) gM_branchBits_585 ⟨rfl, by decide, by decide, by decide +kernel⟩ ⟨rfl, rfl⟩ ⟨by decide, by decide⟩ ⟨by decide, by decide⟩ (As := [.int (8 : Int32)]) (n := 1) rfl hl.1 rfl (Nat.le_of_ble_eq_true rfl) dM_branch_129 ?_
    refine lv_ior (pc := 132) hx hb dM_branch_132 ?_
    obtain ⟨r2, σ3, hr2, hM⟩ := cl_some hM
    refine x_callMv (pc := 133) C hW (kM_word l D dA h  (((x1 ^^^ (4096 : Int32)) ||| x7) ||| r1) _ hr2) gM_word_579 ⟨rfl, by decide, by decide, by decide +kernel⟩ ⟨rfl, rfl⟩ ⟨by decide, by decide⟩ ⟨by decide, by decide⟩ (As := [.int (((x1 ^^^ (4096 : Int32)) ||| x7) ||| r1)]) (n := 1) rfl hl.1 rfl (Nat.le_of_ble_eq_true rfl) dM_branch_133 (fun H locs hW => ?_)
    refine lv_aload_n (pc := 136) hx hb dM_branch_136 rfl (lv_at hl 0 rfl) ?_
    refine lv_bipush (pc := 137) (v := 111) hx hb dM_branch_137 (by decide) ?_
    refine lv_iload (pc := 139) hx hb dM_branch_139 (lv_at hl 2 rfl) ?_
    refine lv_iconst (pc := 141) (v := 4) hx hb dM_branch_141 (by decide) ?_
    refine lv_isub (pc := 142) hx hb dM_branch_142 ?_
    obtain ⟨r4, hr4, hM⟩ := cr_some hM
    refine x_callSi (pc := 143) C.1 (kM_jumpBits l  (x5 - (4 : Int32)) hr4) gM_jumpBits_576 ⟨rfl, by decide, by decide, by decide +kernel⟩ ⟨rfl, rfl⟩ ⟨by decide, by decide⟩ ⟨by decide, by decide⟩ (As := [.int (x5 - (4 : Int32))]) (n := 1) rfl hl.1 rfl (Nat.le_of_ble_eq_true rfl) dM_branch_143 ?_
    refine lv_ior (pc := 146) hx hb dM_branch_146 ?_
    obtain ⟨r5, σ6, hr5, hM⟩ := cl_some hM
    refine x_callMv (pc := 147) C hW (kM_word l D dA h  ((111 : Int32) ||| r4) _ hr5) gM_word_579 ⟨rfl, by decide, by decide, by decide +kernel⟩ ⟨rfl, rfl⟩ ⟨by decide, by decide⟩ ⟨by decide, by decide⟩ (As := [.int ((111 : Int32) ||| r4)]) (n := 1) rfl hl.1 rfl (Nat.le_of_ble_eq_true rfl) dM_branch_147 (fun H locs hW => ?_)
    obtain ⟨rfl, rfl⟩ := sm_p hM
    exact x_retMv (pc := 150) C rfl hW dM_branch_150
  · replace hM := it_f hc hM
    obtain ⟨rfl, rfl⟩ := sm_p hM
    exact x_retMv (pc := 117) C rfl hW dM_branch_117
def M_branch_91 (N : Nat) (x1 : Int32) (x5 : Int32) (x6 : Int32) (x7 : Int32) (σ : MS) : Option (Int32 × MS) :=
  (if x6 = (1 : Int32) then cr (M_branchBits  x5) (fun r1 => cl (M_word  ((x1 ||| x7) ||| r1) σ) (fun r2 σ3 => M_branch_111 N  x1 x5 x6 x7 σ3)) else M_branch_111 N  x1 x5 x6 x7 σ)
set_option maxHeartbeats 4000000 in
set_option maxRecDepth 100000 in
theorem bM_branch_91 (N : Nat)  {r : Int32} {σ' : MS} (C : CxM p s m args meth c cM_branch 8 none D dA A) (x1 : Int32) (x5 : Int32) (x6 : Int32) (x7 : Int32) (σ : MS) (hM : M_branch_91 N  x1 x5 x6 x7 σ = some (r, σ')) (H : Heap) (locs : List Loc) (hW : WdM D dA h A s σ H locs) (ls : Array Slot) (hl : lv_has ls 8 [(0, .ref (h 0)), (1, .int x1), (5, .int x5), (6, .int x6), (7, .int x7)]) : W p l e rm_branch s m args below meth c H locs 0 0 (MQ below (QM D dA h A σ' none) args s 0 0 A) (F0 m 91 ls []) := by
  have hx := C.1.1
  have hb := C.1.2.1
  have hown := C.1.2.2.2.2.1
  have hT := C.1.2.2.2.2.2.1
  unfold M_branch_91 at hM
  refine lv_iload (pc := 91) hx hb dM_branch_91 (lv_at hl 3 rfl) ?_
  refine lv_iconst (pc := 93) (v := 1) hx hb dM_branch_93 (by decide) ?_
  refine lv_icmp_ne (pc := 94) (tgt := 111) hx hb dM_branch_94 (by decide) (fun hc => ?_) (fun hc => ?_)
  · replace hM := it_f hc hM
    exact bM_branch_111 N  C  _ _ _ _ _ hM _ _ hW _ (lv_sub hl [0, 1, 2, 3, 4] rfl)
  · replace hM := it_t hc hM
    refine lv_aload_n (pc := 97) hx hb dM_branch_97 rfl (lv_at hl 0 rfl) ?_
    refine lv_iload_n (pc := 98) hx hb dM_branch_98 rfl (lv_at hl 1 rfl) ?_
    refine lv_iload (pc := 99) hx hb dM_branch_99 (lv_at hl 4 rfl) ?_
    refine lv_ior (pc := 101) hx hb dM_branch_101 ?_
    refine lv_iload (pc := 102) hx hb dM_branch_102 (lv_at hl 2 rfl) ?_
    obtain ⟨r1, hr1, hM⟩ := cr_some hM
    refine x_callSi (pc := 104) C.1 (kM_branchBits l  x5 hr1) gM_branchBits_585 ⟨rfl, by decide, by decide, by decide +kernel⟩ ⟨rfl, rfl⟩ ⟨by decide, by decide⟩ ⟨by decide, by decide⟩ (As := [.int x5]) (n := 1) rfl hl.1 rfl (Nat.le_of_ble_eq_true rfl) dM_branch_104 ?_
    refine lv_ior (pc := 107) hx hb dM_branch_107 ?_
    obtain ⟨r2, σ3, hr2, hM⟩ := cl_some hM
    refine x_callMv (pc := 108) C hW (kM_word l D dA h  ((x1 ||| x7) ||| r1) _ hr2) gM_word_579 ⟨rfl, by decide, by decide, by decide +kernel⟩ ⟨rfl, rfl⟩ ⟨by decide, by decide⟩ ⟨by decide, by decide⟩ (As := [.int ((x1 ||| x7) ||| r1)]) (n := 1) rfl hl.1 rfl (Nat.le_of_ble_eq_true rfl) dM_branch_108 (fun H locs hW => ?_)
    exact bM_branch_111 N  C  _ _ _ _ _ hM _ _ hW _ (lv_sub hl [0, 1, 2, 3, 4] rfl)
def M_branch_67 (N : Nat) (x1 : Int32) (x2 : Int32) (x5 : Int32) (x6 : Int32) (x7 : Int32) (t1 : Int32) (t2 : Int32) (σ : MS) : Option (Int32 × MS) :=
  cr (M_shortBranch  x5) (fun r1 => cl (M_half  (((t1 ||| (t2 <<< ((13 : Int32) &&& 31))) ||| (((x2 - (8 : Int32)) &&& (7 : Int32)) <<< ((7 : Int32) &&& 31))) ||| r1) σ) (fun r2 σ3 => M_branch_91 N  x1 x5 x6 x7 σ3))
set_option maxHeartbeats 4000000 in
set_option maxRecDepth 100000 in
theorem bM_branch_67 (N : Nat)  {r : Int32} {σ' : MS} (C : CxM p s m args meth c cM_branch 8 none D dA A) (x1 : Int32) (x2 : Int32) (x5 : Int32) (x6 : Int32) (x7 : Int32) (t1 : Int32) (t2 : Int32) (σ : MS) (hM : M_branch_67 N  x1 x2 x5 x6 x7 t1 t2 σ = some (r, σ')) (H : Heap) (locs : List Loc) (hW : WdM D dA h A s σ H locs) (ls : Array Slot) (hl : lv_has ls 8 [(0, .ref (h 0)), (1, .int x1), (2, .int x2), (5, .int x5), (6, .int x6), (7, .int x7)]) : W p l e rm_branch s m args below meth c H locs 0 0 (MQ below (QM D dA h A σ' none) args s 0 0 A) (F0 m 67 ls [.int t2, .int t1, .ref (h 0)]) := by
  have hx := C.1.1
  have hb := C.1.2.1
  have hown := C.1.2.2.2.2.1
  have hT := C.1.2.2.2.2.2.1
  unfold M_branch_67 at hM
  refine lv_bipush (pc := 67) (v := 13) hx hb dM_branch_67 (by decide) ?_
  refine lv_ishl (pc := 69) hx hb dM_branch_69 ?_
  refine lv_ior (pc := 70) hx hb dM_branch_70 ?_
  refine lv_iload_n (pc := 71) hx hb dM_branch_71 rfl (lv_at hl 2 rfl) ?_
  refine lv_bipush (pc := 72) (v := 8) hx hb dM_branch_72 (by decide) ?_
  refine lv_isub (pc := 74) hx hb dM_branch_74 ?_
  refine lv_bipush (pc := 75) (v := 7) hx hb dM_branch_75 (by decide) ?_
  refine lv_iand (pc := 77) hx hb dM_branch_77 ?_
  refine lv_bipush (pc := 78) (v := 7) hx hb dM_branch_78 (by decide) ?_
  refine lv_ishl (pc := 80) hx hb dM_branch_80 ?_
  refine lv_ior (pc := 81) hx hb dM_branch_81 ?_
  refine lv_iload (pc := 82) hx hb dM_branch_82 (lv_at hl 3 rfl) ?_
  obtain ⟨r1, hr1, hM⟩ := cr_some hM
  refine x_callSi (pc := 84) C.1 (kM_shortBranch l  x5 hr1) gM_shortBranch_582 ⟨rfl, by decide, by decide, by decide +kernel⟩ ⟨rfl, rfl⟩ ⟨by decide, by decide⟩ ⟨by decide, by decide⟩ (As := [.int x5]) (n := 1) rfl hl.1 rfl (Nat.le_of_ble_eq_true rfl) dM_branch_84 ?_
  refine lv_ior (pc := 87) hx hb dM_branch_87 ?_
  obtain ⟨r2, σ3, hr2, hM⟩ := cl_some hM
  refine x_callMv (pc := 88) C hW (kM_half l D dA h  (((t1 ||| (t2 <<< ((13 : Int32) &&& 31))) ||| (((x2 - (8 : Int32)) &&& (7 : Int32)) <<< ((7 : Int32) &&& 31))) ||| r1) _ hr2) gM_half_556 ⟨rfl, by decide, by decide, by decide +kernel⟩ ⟨rfl, rfl⟩ ⟨by decide, by decide⟩ ⟨by decide, by decide⟩ (As := [.int (((t1 ||| (t2 <<< ((13 : Int32) &&& 31))) ||| (((x2 - (8 : Int32)) &&& (7 : Int32)) <<< ((7 : Int32) &&& 31))) ||| r1)]) (n := 1) rfl hl.1 rfl (Nat.le_of_ble_eq_true rfl) dM_branch_88 (fun H locs hW => ?_)
  exact bM_branch_91 N  C  _ _ _ _ _ hM _ _ hW _ (lv_sub hl [0, 1, 3, 4, 5] rfl)
def M_branch_21 (N : Nat) (x1 : Int32) (x2 : Int32) (x3 : Int32) (t1 : Int32) (t2 : Int32) (σ : MS) : Option (Int32 × MS) :=
  cl (M_target N t1 t2 σ) (fun r1 σ2 => cr (M_level  σ2) (fun r3 => bnd ((x2 <<< ((15 : Int32) &&& 31)) ||| (x3 <<< ((20 : Int32) &&& 31))) (fun y4 => (if r3 = 0 then (if ((x1 >>> ((12 : Int32) &&& 31)) &&& (7 : Int32)) = 0 then M_branch_67 N  x1 x2 r1 r3 y4 (1 : Int32) (6 : Int32) σ2 else M_branch_67 N  x1 x2 r1 r3 y4 (1 : Int32) (7 : Int32) σ2) else M_branch_91 N  x1 r1 r3 y4 σ2))))
set_option maxHeartbeats 4000000 in
set_option maxRecDepth 100000 in
theorem bM_branch_21 (N : Nat)  {r : Int32} {σ' : MS} (C : CxM p s m args meth c cM_branch 8 none D dA A) (x1 : Int32) (x2 : Int32) (x3 : Int32) (t1 : Int32) (t2 : Int32) (σ : MS) (hM : M_branch_21 N  x1 x2 x3 t1 t2 σ = some (r, σ')) (H : Heap) (locs : List Loc) (hW : WdM D dA h A s σ H locs) (ls : Array Slot) (hl : lv_has ls 8 [(0, .ref (h 0)), (1, .int x1), (2, .int x2), (3, .int x3)]) : W p l e rm_branch s m args below meth c H locs 0 0 (MQ below (QM D dA h A σ' none) args s 0 0 A) (F0 m 21 ls [.int t2, .int t1, .ref (h 0)]) := by
  have hx := C.1.1
  have hb := C.1.2.1
  have hown := C.1.2.2.2.2.1
  have hT := C.1.2.2.2.2.2.1
  unfold M_branch_21 at hM
  obtain ⟨r1, σ2, hr1, hM⟩ := cl_some hM
  refine x_callMi (pc := 21) C hW (kM_target l D dA h N t1 t2 _ hr1) gM_target_570 ⟨rfl, by decide, by decide, by decide +kernel⟩ ⟨rfl, rfl⟩ ⟨by decide, by decide⟩ ⟨by decide, by decide⟩ (As := [.int t1, .int t2]) (n := 2) rfl hl.1 rfl (Nat.le_of_ble_eq_true rfl) dM_branch_21 (fun H locs hW => ?_)
  refine lv_istore (pc := 24) (lv' := [(5, .int r1), (0, .ref (h 0)), (1, .int x1), (2, .int x2), (3, .int x3)]) hx hb dM_branch_24 hl (by decide) rfl (fun ls hl => ?_)
  refine lv_aload_n (pc := 26) hx hb dM_branch_26 rfl (lv_at hl 1 rfl) ?_
  obtain ⟨r3, hr3, hM⟩ := cr_some hM
  refine x_callRi (pc := 27) C hW (kM_level l D dA h  _ hr3) gM_level_563 ⟨rfl, by decide, by decide, by decide +kernel⟩ ⟨rfl, rfl⟩ ⟨by decide, by decide⟩ ⟨by decide, by decide⟩ (As := []) (n := 0) rfl hl.1 rfl (Nat.le_of_ble_eq_true rfl) dM_branch_27 ?_
  refine lv_istore (pc := 30) (lv' := [(6, .int r3), (5, .int r1), (0, .ref (h 0)), (1, .int x1), (2, .int x2), (3, .int x3)]) hx hb dM_branch_30 hl (by decide) rfl (fun ls hl => ?_)
  refine lv_iload_n (pc := 32) hx hb dM_branch_32 rfl (lv_at hl 4 rfl) ?_
  refine lv_bipush (pc := 33) (v := 15) hx hb dM_branch_33 (by decide) ?_
  refine lv_ishl (pc := 35) hx hb dM_branch_35 ?_
  refine lv_iload_n (pc := 36) hx hb dM_branch_36 rfl (lv_at hl 5 rfl) ?_
  refine lv_bipush (pc := 37) (v := 20) hx hb dM_branch_37 (by decide) ?_
  refine lv_ishl (pc := 39) hx hb dM_branch_39 ?_
  refine lv_ior (pc := 40) hx hb dM_branch_40 ?_
  obtain ⟨y4, ey4, hM⟩ := bnd_some hM
  refine x_seti ey4 ?_
  refine lv_istore (pc := 41) (lv' := [(7, .int y4), (6, .int r3), (5, .int r1), (0, .ref (h 0)), (1, .int x1), (2, .int x2), (3, .int x3)]) hx hb dM_branch_41 hl (by decide) rfl (fun ls hl => ?_)
  refine lv_iload (pc := 43) hx hb dM_branch_43 (lv_at hl 1 rfl) ?_
  refine lv_if_ne (pc := 45) (tgt := 91) hx hb dM_branch_45 (by decide) (fun hc => ?_) (fun hc => ?_)
  · replace hM := it_f hc hM
    exact bM_branch_91 N  C  _ _ _ _ _ hM _ _ hW _ (lv_sub hl [3, 4, 2, 1, 0] rfl)
  · replace hM := it_t hc hM
    refine lv_aload_n (pc := 48) hx hb dM_branch_48 rfl (lv_at hl 3 rfl) ?_
    refine lv_iconst (pc := 49) (v := 1) hx hb dM_branch_49 (by decide) ?_
    refine lv_iload_n (pc := 50) hx hb dM_branch_50 rfl (lv_at hl 4 rfl) ?_
    refine lv_bipush (pc := 51) (v := 12) hx hb dM_branch_51 (by decide) ?_
    refine lv_ishr (pc := 53) hx hb dM_branch_53 ?_
    refine lv_bipush (pc := 54) (v := 7) hx hb dM_branch_54 (by decide) ?_
    refine lv_iand (pc := 56) hx hb dM_branch_56 ?_
    refine lv_if_ne (pc := 57) (tgt := 65) hx hb dM_branch_57 (by decide) (fun hc => ?_) (fun hc => ?_)
    · replace hM := it_f hc hM
      refine lv_bipush (pc := 65) (v := 7) hx hb dM_branch_65 (by decide) ?_
      exact bM_branch_67 N  C  _ _ _ _ _ _ _ _ hM _ _ hW _ (lv_sub hl [3, 4, 5, 2, 1, 0] rfl)
    · replace hM := it_t hc hM
      refine lv_bipush (pc := 60) (v := 6) hx hb dM_branch_60 (by decide) ?_
      refine lv_goto (pc := 62) (tgt := 67) hx hb dM_branch_62 (by decide) ?_
      exact bM_branch_67 N  C  _ _ _ _ _ _ _ _ hM _ _ hW _ (lv_sub hl [3, 4, 5, 2, 1, 0] rfl)
def M_branch_11 (N : Nat) (x1 : Int32) (x2 : Int32) (x3 : Int32) (x4 : Int32) (t1 : Int32) (σ : MS) : Option (Int32 × MS) :=
  (if x4 = 0 then M_branch_21 N  x1 x2 x3 t1 (1 : Int32) σ else M_branch_21 N  x1 x2 x3 t1 (0 : Int32) σ)
set_option maxHeartbeats 4000000 in
set_option maxRecDepth 100000 in
theorem bM_branch_11 (N : Nat)  {r : Int32} {σ' : MS} (C : CxM p s m args meth c cM_branch 8 none D dA A) (x1 : Int32) (x2 : Int32) (x3 : Int32) (x4 : Int32) (t1 : Int32) (σ : MS) (hM : M_branch_11 N  x1 x2 x3 x4 t1 σ = some (r, σ')) (H : Heap) (locs : List Loc) (hW : WdM D dA h A s σ H locs) (ls : Array Slot) (hl : lv_has ls 8 [(0, .ref (h 0)), (1, .int x1), (2, .int x2), (3, .int x3), (4, .int x4)]) : W p l e rm_branch s m args below meth c H locs 0 0 (MQ below (QM D dA h A σ' none) args s 0 0 A) (F0 m 11 ls [.int t1, .ref (h 0)]) := by
  have hx := C.1.1
  have hb := C.1.2.1
  have hown := C.1.2.2.2.2.1
  have hT := C.1.2.2.2.2.2.1
  unfold M_branch_11 at hM
  refine lv_iload (pc := 11) hx hb dM_branch_11 (lv_at hl 4 rfl) ?_
  refine lv_if_eq (pc := 13) (tgt := 20) hx hb dM_branch_13 (by decide) (fun hc => ?_) (fun hc => ?_)
  · replace hM := it_t hc hM
    refine lv_iconst (pc := 20) (v := 1) hx hb dM_branch_20 (by decide) ?_
    exact bM_branch_21 N  C  _ _ _ _ _ _ hM _ _ hW _ (lv_sub hl [0, 1, 2, 3] rfl)
  · replace hM := it_f hc hM
    refine lv_iconst (pc := 16) (v := 0) hx hb dM_branch_16 (by decide) ?_
    refine lv_goto (pc := 17) (tgt := 21) hx hb dM_branch_17 (by decide) ?_
    exact bM_branch_21 N  C  _ _ _ _ _ _ hM _ _ hW _ (lv_sub hl [0, 1, 2, 3] rfl)
def M_branch (N : Nat) (x1 : Int32) (x2 : Int32) (x3 : Int32) (x4 : Int32) (σ : MS) : Option (Int32 × MS) :=
  (if x4 = 0 then M_branch_11 N  x1 x2 x3 x4 (3 : Int32) σ else M_branch_11 N  x1 x2 x3 x4 (2 : Int32) σ)
set_option maxHeartbeats 4000000 in
set_option maxRecDepth 100000 in
theorem bM_branch_0 (N : Nat)  {r : Int32} {σ' : MS} (C : CxM p s m args meth c cM_branch 8 none D dA A) (x1 : Int32) (x2 : Int32) (x3 : Int32) (x4 : Int32) (σ : MS) (hM : M_branch N  x1 x2 x3 x4 σ = some (r, σ')) (H : Heap) (locs : List Loc) (hW : WdM D dA h A s σ H locs) (ls : Array Slot) (hl : lv_has ls 8 [(0, .ref (h 0)), (1, .int x1), (2, .int x2), (3, .int x3), (4, .int x4)]) : W p l e rm_branch s m args below meth c H locs 0 0 (MQ below (QM D dA h A σ' none) args s 0 0 A) (F0 m 0 ls []) := by
  have hx := C.1.1
  have hb := C.1.2.1
  have hown := C.1.2.2.2.2.1
  have hT := C.1.2.2.2.2.2.1
  unfold M_branch at hM
  refine lv_aload_n (pc := 0) hx hb dM_branch_0 rfl (lv_at hl 0 rfl) ?_
  refine lv_iload (pc := 1) hx hb dM_branch_1 (lv_at hl 4 rfl) ?_
  refine lv_if_eq (pc := 3) (tgt := 10) hx hb dM_branch_3 (by decide) (fun hc => ?_) (fun hc => ?_)
  · replace hM := it_t hc hM
    refine lv_iconst (pc := 10) (v := 3) hx hb dM_branch_10 (by decide) ?_
    exact bM_branch_11 N  C  _ _ _ _ _ _ hM _ _ hW _ (lv_sub hl [0, 1, 2, 3, 4] rfl)
  · replace hM := it_f hc hM
    refine lv_iconst (pc := 6) (v := 2) hx hb dM_branch_6 (by decide) ?_
    refine lv_goto (pc := 7) (tgt := 11) hx hb dM_branch_7 (by decide) ?_
    exact bM_branch_11 N  C  _ _ _ _ _ _ hM _ _ hW _ (lv_sub hl [0, 1, 2, 3, 4] rfl)
theorem kM_branch (l : Launch) (D : va_G) (dA : Nat → ClassId) (h : Nat → Nat) (N : Nat) (x1 : Int32) (x2 : Int32) (x3 : Int32) (x4 : Int32) (σ : MS) {r : Int32} {σ' : MS} (hM : M_branch N x1 x2 x3 x4 σ = some (r, σ')) : KM l D dA yM_branch cM_branch 8 none rm_branch h σ [.int x1, .int x2, .int x3, .int x4] none σ' := x_enterM rfl (Nat.le_of_ble_eq_true rfl) (fun p e s m args below meth c A C hW ls hl => bM_branch_0 N C x1 x2 x3 x4 σ hM s.heap [] hW ls hl)
def M_comma_21 (N : Nat) (t0 : Int32) (σ : MS) : Option (Int32 × MS) :=
  gd (isB t0) (some (t0, σ))
set_option maxHeartbeats 4000000 in
set_option maxRecDepth 100000 in
theorem bM_comma_21 (N : Nat)  {r : Int32} {σ' : MS} (C : CxM p s m args meth c cM_comma 1 (some .boolean) D dA A) (t0 : Int32) (σ : MS) (hM : M_comma_21 N  t0 σ = some (r, σ')) (H : Heap) (locs : List Loc) (hW : WdM D dA h A s σ H locs) (ls : Array Slot) (hl : lv_has ls 1 []) : W p l e rm_comma s m args below meth c H locs 0 0 (MQ below (QM D dA h A σ' (some (.int r))) args s 0 0 A) (F0 m 21 ls [.int t0]) := by
  have hx := C.1.1
  have hb := C.1.2.1
  have hown := C.1.2.2.2.2.1
  have hT := C.1.2.2.2.2.2.1
  unfold M_comma_21 at hM
  obtain ⟨hg1, hM⟩ := gd_some hM
  obtain ⟨rfl, rfl⟩ := sm_p hM
  exact x_retMz (pc := 21) C rfl (isB_n hg1) hW dM_comma_21
def M_comma_20 (N : Nat)  (σ : MS) : Option (Int32 × MS) :=
  M_comma_21 N  (0 : Int32) σ
set_option maxHeartbeats 4000000 in
set_option maxRecDepth 100000 in
theorem bM_comma_20 (N : Nat)  {r : Int32} {σ' : MS} (C : CxM p s m args meth c cM_comma 1 (some .boolean) D dA A)  (σ : MS) (hM : M_comma_20 N   σ = some (r, σ')) (H : Heap) (locs : List Loc) (hW : WdM D dA h A s σ H locs) (ls : Array Slot) (hl : lv_has ls 1 []) : W p l e rm_comma s m args below meth c H locs 0 0 (MQ below (QM D dA h A σ' (some (.int r))) args s 0 0 A) (F0 m 20 ls []) := by
  have hx := C.1.1
  have hb := C.1.2.1
  have hown := C.1.2.2.2.2.1
  have hT := C.1.2.2.2.2.2.1
  unfold M_comma_20 at hM
  refine lv_iconst (pc := 20) (v := 0) hx hb dM_comma_20 (by decide) ?_
  exact bM_comma_21 N  C  _ _ hM _ _ hW _ (lv_sub hl [] rfl)
def M_comma (N : Nat)  (σ : MS) : Option (Int32 × MS) :=
  (if (σ.1 14) = 0 then cl (M_needs N (44 : Int32) σ) (fun r1 σ2 => (if r1 = 0 then M_comma_20 N  σ2 else M_comma_21 N  (1 : Int32) σ2)) else M_comma_20 N  σ)
set_option maxHeartbeats 4000000 in
set_option maxRecDepth 100000 in
theorem bM_comma_0 (N : Nat)  {r : Int32} {σ' : MS} (C : CxM p s m args meth c cM_comma 1 (some .boolean) D dA A)  (σ : MS) (hM : M_comma N   σ = some (r, σ')) (H : Heap) (locs : List Loc) (hW : WdM D dA h A s σ H locs) (ls : Array Slot) (hl : lv_has ls 1 [(0, .ref (h 0))]) : W p l e rm_comma s m args below meth c H locs 0 0 (MQ below (QM D dA h A σ' (some (.int r))) args s 0 0 A) (F0 m 0 ls []) := by
  have hx := C.1.1
  have hb := C.1.2.1
  have hown := C.1.2.2.2.2.1
  have hT := C.1.2.2.2.2.2.1
  unfold M_comma at hM
  refine lv_aload_n (pc := 0) hx hb dM_comma_0 rfl (lv_at hl 0 rfl) ?_
  refine gM (pc := 1) C hW 24 (by decide) q_1681 rfl rfl dM_comma_1 ?_
  refine lv_if_ne (pc := 4) (tgt := 20) hx hb dM_comma_4 (by decide) (fun hc => ?_) (fun hc => ?_)
  · replace hM := it_f hc hM
    exact bM_comma_20 N  C   _ hM _ _ hW _ (lv_sub hl [] rfl)
  · replace hM := it_t hc hM
    refine lv_aload_n (pc := 7) hx hb dM_comma_7 rfl (lv_at hl 0 rfl) ?_
    refine lv_bipush (pc := 8) (v := 44) hx hb dM_comma_8 (by decide) ?_
    obtain ⟨r1, σ2, hr1, hM⟩ := cl_some hM
    refine x_callMi (pc := 10) C hW (kM_needs l D dA h N (44 : Int32) _ hr1) gM_needs_515 ⟨rfl, by decide, by decide, by decide +kernel⟩ ⟨rfl, rfl⟩ ⟨by decide, by decide⟩ ⟨by decide, by decide⟩ (As := [.int (44 : Int32)]) (n := 1) rfl hl.1 rfl (Nat.le_of_ble_eq_true rfl) dM_comma_10 (fun H locs hW => ?_)
    refine lv_if_eq (pc := 13) (tgt := 20) hx hb dM_comma_13 (by decide) (fun hc => ?_) (fun hc => ?_)
    · replace hM := it_t hc hM
      exact bM_comma_20 N  C   _ hM _ _ hW _ (lv_sub hl [] rfl)
    · replace hM := it_f hc hM
      refine lv_iconst (pc := 16) (v := 1) hx hb dM_comma_16 (by decide) ?_
      refine lv_goto (pc := 17) (tgt := 21) hx hb dM_comma_17 (by decide) ?_
      exact bM_comma_21 N  C  _ _ hM _ _ hW _ (lv_sub hl [] rfl)
theorem kM_comma (l : Launch) (D : va_G) (dA : Nat → ClassId) (h : Nat → Nat) (N : Nat)  (σ : MS) {r : Int32} {σ' : MS} (hM : M_comma N  σ = some (r, σ')) : KM l D dA yM_comma cM_comma 1 (some .boolean) rm_comma h σ [] (some (.int r)) σ' := x_enterM rfl (Nat.le_of_ble_eq_true rfl) (fun p e s m args below meth c A C hW ls hl => bM_comma_0 N C  σ hM s.heap [] hW ls hl)
def M_branches_105 (N : Nat)  (σ : MS) : Option (Int32 × MS) :=
  some ((0 : Int32), σ)
set_option maxHeartbeats 4000000 in
set_option maxRecDepth 100000 in
theorem bM_branches_105 (N : Nat)  {r : Int32} {σ' : MS} (C : CxM p s m args meth c cM_branches 6 none D dA A)  (σ : MS) (hM : M_branches_105 N   σ = some (r, σ')) (H : Heap) (locs : List Loc) (hW : WdM D dA h A s σ H locs) (ls : Array Slot) (hl : lv_has ls 6 []) : W p l e rm_branches s m args below meth c H locs 0 0 (MQ below (QM D dA h A σ' none) args s 0 0 A) (F0 m 105 ls []) := by
  have hx := C.1.1
  have hb := C.1.2.1
  have hown := C.1.2.2.2.2.1
  have hT := C.1.2.2.2.2.2.1
  unfold M_branches_105 at hM
  obtain ⟨rfl, rfl⟩ := sm_p hM
  exact x_retMv (pc := 105) C rfl hW dM_branches_105
def M_branches_83 (N : Nat) (x2 : Int32) (x3 : Int32) (x4 : Int32) (x5 : Int32) (σ : MS) : Option (Int32 × MS) :=
  cl (M_branch N x2 x3 x4 x5 σ) (fun r1 σ2 => M_branches_105 N  σ2)
set_option maxHeartbeats 4000000 in
set_option maxRecDepth 100000 in
theorem bM_branches_83 (N : Nat)  {r : Int32} {σ' : MS} (C : CxM p s m args meth c cM_branches 6 none D dA A) (x2 : Int32) (x3 : Int32) (x4 : Int32) (x5 : Int32) (σ : MS) (hM : M_branches_83 N  x2 x3 x4 x5 σ = some (r, σ')) (H : Heap) (locs : List Loc) (hW : WdM D dA h A s σ H locs) (ls : Array Slot) (hl : lv_has ls 6 [(0, .ref (h 0)), (2, .int x2), (3, .int x3), (4, .int x4), (5, .int x5)]) : W p l e rm_branches s m args below meth c H locs 0 0 (MQ below (QM D dA h A σ' none) args s 0 0 A) (F0 m 83 ls []) := by
  have hx := C.1.1
  have hb := C.1.2.1
  have hown := C.1.2.2.2.2.1
  have hT := C.1.2.2.2.2.2.1
  unfold M_branches_83 at hM
  refine lv_aload_n (pc := 83) hx hb dM_branches_83 rfl (lv_at hl 0 rfl) ?_
  refine lv_iload_n (pc := 84) hx hb dM_branches_84 rfl (lv_at hl 1 rfl) ?_
  refine lv_iload_n (pc := 85) hx hb dM_branches_85 rfl (lv_at hl 2 rfl) ?_
  refine lv_iload (pc := 86) hx hb dM_branches_86 (lv_at hl 3 rfl) ?_
  refine lv_iload (pc := 88) hx hb dM_branches_88 (lv_at hl 4 rfl) ?_
  obtain ⟨r1, σ2, hr1, hM⟩ := cl_some hM
  refine x_callMv (pc := 90) C hW (kM_branch l D dA h N x2 x3 x4 x5 _ hr1) gM_branch_604 ⟨rfl, by decide, by decide, by decide +kernel⟩ ⟨rfl, rfl⟩ ⟨by decide, by decide⟩ ⟨by decide, by decide⟩ (As := [.int x2, .int x3, .int x4, .int x5]) (n := 4) rfl hl.1 rfl (Nat.le_of_ble_eq_true rfl) dM_branches_90 (fun H locs hW => ?_)
  refine lv_goto (pc := 93) (tgt := 105) hx hb dM_branches_93 (by decide) ?_
  exact bM_branches_105 N  C   _ hM _ _ hW _ (lv_sub hl [] rfl)
def M_branches_69 (N : Nat) (x1 : Int32) (x2 : Int32) (x3 : Int32) (x4 : Int32) (t0 : Int32) (σ : MS) : Option (Int32 × MS) :=
  (if x1 = (7 : Int32) then M_branches_83 N  x2 x3 x4 t0 σ else (if x1 = (35 : Int32) then M_branches_83 N  x2 x3 x4 t0 σ else cl (M_branch N x2 x4 x3 (0 : Int32) σ) (fun r1 σ2 => M_branches_105 N  σ2)))
set_option maxHeartbeats 4000000 in
set_option maxRecDepth 100000 in
theorem bM_branches_69 (N : Nat)  {r : Int32} {σ' : MS} (C : CxM p s m args meth c cM_branches 6 none D dA A) (x1 : Int32) (x2 : Int32) (x3 : Int32) (x4 : Int32) (t0 : Int32) (σ : MS) (hM : M_branches_69 N  x1 x2 x3 x4 t0 σ = some (r, σ')) (H : Heap) (locs : List Loc) (hW : WdM D dA h A s σ H locs) (ls : Array Slot) (hl : lv_has ls 6 [(0, .ref (h 0)), (1, .int x1), (2, .int x2), (3, .int x3), (4, .int x4)]) : W p l e rm_branches s m args below meth c H locs 0 0 (MQ below (QM D dA h A σ' none) args s 0 0 A) (F0 m 69 ls [.int t0]) := by
  have hx := C.1.1
  have hb := C.1.2.1
  have hown := C.1.2.2.2.2.1
  have hT := C.1.2.2.2.2.2.1
  unfold M_branches_69 at hM
  refine lv_istore (pc := 69) (lv' := [(5, .int t0), (0, .ref (h 0)), (1, .int x1), (2, .int x2), (3, .int x3), (4, .int x4)]) hx hb dM_branches_69 hl (by decide) rfl (fun ls hl => ?_)
  refine lv_iload_n (pc := 71) hx hb dM_branches_71 rfl (lv_at hl 2 rfl) ?_
  refine lv_bipush (pc := 72) (v := 7) hx hb dM_branches_72 (by decide) ?_
  refine lv_icmp_eq (pc := 74) (tgt := 83) hx hb dM_branches_74 (by decide) (fun hc => ?_) (fun hc => ?_)
  · replace hM := it_t hc hM
    exact bM_branches_83 N  C  _ _ _ _ _ hM _ _ hW _ (lv_sub hl [1, 3, 4, 5, 0] rfl)
  · replace hM := it_f hc hM
    refine lv_iload_n (pc := 77) hx hb dM_branches_77 rfl (lv_at hl 2 rfl) ?_
    refine lv_bipush (pc := 78) (v := 35) hx hb dM_branches_78 (by decide) ?_
    refine lv_icmp_ne (pc := 80) (tgt := 96) hx hb dM_branches_80 (by decide) (fun hc => ?_) (fun hc => ?_)
    · replace hM := it_f hc hM
      refine lv_aload_n (pc := 96) hx hb dM_branches_96 rfl (lv_at hl 1 rfl) ?_
      refine lv_iload_n (pc := 97) hx hb dM_branches_97 rfl (lv_at hl 3 rfl) ?_
      refine lv_iload (pc := 98) hx hb dM_branches_98 (lv_at hl 5 rfl) ?_
      refine lv_iload_n (pc := 100) hx hb dM_branches_100 rfl (lv_at hl 4 rfl) ?_
      refine lv_iconst (pc := 101) (v := 0) hx hb dM_branches_101 (by decide) ?_
      obtain ⟨r1, σ2, hr1, hM⟩ := cl_some hM
      refine x_callMv (pc := 102) C hW (kM_branch l D dA h N x2 x4 x3 (0 : Int32) _ hr1) gM_branch_604 ⟨rfl, by decide, by decide, by decide +kernel⟩ ⟨rfl, rfl⟩ ⟨by decide, by decide⟩ ⟨by decide, by decide⟩ (As := [.int x2, .int x4, .int x3, .int (0 : Int32)]) (n := 4) rfl hl.1 rfl (Nat.le_of_ble_eq_true rfl) dM_branches_102 (fun H locs hW => ?_)
      exact bM_branches_105 N  C   _ hM _ _ hW _ (lv_sub hl [] rfl)
    · replace hM := it_t hc hM
      exact bM_branches_83 N  C  _ _ _ _ _ hM _ _ hW _ (lv_sub hl [1, 3, 4, 5, 0] rfl)
def M_branches_68 (N : Nat) (x1 : Int32) (x2 : Int32) (x3 : Int32) (x4 : Int32) (σ : MS) : Option (Int32 × MS) :=
  M_branches_69 N  x1 x2 x3 x4 (0 : Int32) σ
set_option maxHeartbeats 4000000 in
set_option maxRecDepth 100000 in
theorem bM_branches_68 (N : Nat)  {r : Int32} {σ' : MS} (C : CxM p s m args meth c cM_branches 6 none D dA A) (x1 : Int32) (x2 : Int32) (x3 : Int32) (x4 : Int32) (σ : MS) (hM : M_branches_68 N  x1 x2 x3 x4 σ = some (r, σ')) (H : Heap) (locs : List Loc) (hW : WdM D dA h A s σ H locs) (ls : Array Slot) (hl : lv_has ls 6 [(0, .ref (h 0)), (1, .int x1), (2, .int x2), (3, .int x3), (4, .int x4)]) : W p l e rm_branches s m args below meth c H locs 0 0 (MQ below (QM D dA h A σ' none) args s 0 0 A) (F0 m 68 ls []) := by
  have hx := C.1.1
  have hb := C.1.2.1
  have hown := C.1.2.2.2.2.1
  have hT := C.1.2.2.2.2.2.1
  unfold M_branches_68 at hM
  refine lv_iconst (pc := 68) (v := 0) hx hb dM_branches_68 (by decide) ?_
  exact bM_branches_69 N  C  _ _ _ _ _ _ hM _ _ hW _ (lv_sub hl [0, 1, 2, 3, 4] rfl)
def M_branches_25 (N : Nat) (x1 : Int32) (x2 : Int32) (x3 : Int32) (t0 : Int32) (σ : MS) : Option (Int32 × MS) :=
  cl (M_comma N σ) (fun r1 σ2 => (if r1 = 0 then some ((0 : Int32), σ2) else (if x1 = (35 : Int32) then (if (2 : Int32) ≤ ((x2 >>> ((12 : Int32) &&& 31)) &&& (7 : Int32)) then M_branches_68 N  x1 x2 x3 t0 σ2 else (if x3 ≤ (7 : Int32) then M_branches_68 N  x1 x2 x3 t0 σ2 else (if (16 : Int32) ≤ x3 then M_branches_68 N  x1 x2 x3 t0 σ2 else M_branches_69 N  x1 x2 x3 t0 (1 : Int32) σ2))) else M_branches_68 N  x1 x2 x3 t0 σ2)))
set_option maxHeartbeats 4000000 in
set_option maxRecDepth 100000 in
theorem bM_branches_25 (N : Nat)  {r : Int32} {σ' : MS} (C : CxM p s m args meth c cM_branches 6 none D dA A) (x1 : Int32) (x2 : Int32) (x3 : Int32) (t0 : Int32) (σ : MS) (hM : M_branches_25 N  x1 x2 x3 t0 σ = some (r, σ')) (H : Heap) (locs : List Loc) (hW : WdM D dA h A s σ H locs) (ls : Array Slot) (hl : lv_has ls 6 [(0, .ref (h 0)), (1, .int x1), (2, .int x2), (3, .int x3)]) : W p l e rm_branches s m args below meth c H locs 0 0 (MQ below (QM D dA h A σ' none) args s 0 0 A) (F0 m 25 ls [.int t0]) := by
  have hx := C.1.1
  have hb := C.1.2.1
  have hown := C.1.2.2.2.2.1
  have hT := C.1.2.2.2.2.2.1
  unfold M_branches_25 at hM
  refine lv_istore (pc := 25) (lv' := [(4, .int t0), (0, .ref (h 0)), (1, .int x1), (2, .int x2), (3, .int x3)]) hx hb dM_branches_25 hl (by decide) rfl (fun ls hl => ?_)
  refine lv_aload_n (pc := 27) hx hb dM_branches_27 rfl (lv_at hl 1 rfl) ?_
  obtain ⟨r1, σ2, hr1, hM⟩ := cl_some hM
  refine x_callMi (pc := 28) C hW (kM_comma l D dA h N _ hr1) gM_comma_591 ⟨rfl, by decide, by decide, by decide +kernel⟩ ⟨rfl, rfl⟩ ⟨by decide, by decide⟩ ⟨by decide, by decide⟩ (As := []) (n := 0) rfl hl.1 rfl (Nat.le_of_ble_eq_true rfl) dM_branches_28 (fun H locs hW => ?_)
  refine lv_if_ne (pc := 31) (tgt := 35) hx hb dM_branches_31 (by decide) (fun hc => ?_) (fun hc => ?_)
  · replace hM := it_f hc hM
    refine lv_iload_n (pc := 35) hx hb dM_branches_35 rfl (lv_at hl 2 rfl) ?_
    refine lv_bipush (pc := 36) (v := 35) hx hb dM_branches_36 (by decide) ?_
    refine lv_icmp_ne (pc := 38) (tgt := 68) hx hb dM_branches_38 (by decide) (fun hc => ?_) (fun hc => ?_)
    · replace hM := it_f hc hM
      exact bM_branches_68 N  C  _ _ _ _ _ hM _ _ hW _ (lv_sub hl [1, 2, 3, 4, 0] rfl)
    · replace hM := it_t hc hM
      refine lv_iload_n (pc := 41) hx hb dM_branches_41 rfl (lv_at hl 3 rfl) ?_
      refine lv_bipush (pc := 42) (v := 12) hx hb dM_branches_42 (by decide) ?_
      refine lv_ishr (pc := 44) hx hb dM_branches_44 ?_
      refine lv_bipush (pc := 45) (v := 7) hx hb dM_branches_45 (by decide) ?_
      refine lv_iand (pc := 47) hx hb dM_branches_47 ?_
      refine lv_iconst (pc := 48) (v := 2) hx hb dM_branches_48 (by decide) ?_
      refine lv_icmp_ge (pc := 49) (tgt := 68) hx hb dM_branches_49 (by decide) (fun hc => ?_) (fun hc => ?_)
      · replace hM := it_t hc hM
        exact bM_branches_68 N  C  _ _ _ _ _ hM _ _ hW _ (lv_sub hl [1, 2, 3, 4, 0] rfl)
      · replace hM := it_f hc hM
        refine lv_iload_n (pc := 52) hx hb dM_branches_52 rfl (lv_at hl 4 rfl) ?_
        refine lv_bipush (pc := 53) (v := 7) hx hb dM_branches_53 (by decide) ?_
        refine lv_icmp_le (pc := 55) (tgt := 68) hx hb dM_branches_55 (by decide) (fun hc => ?_) (fun hc => ?_)
        · replace hM := it_t hc hM
          exact bM_branches_68 N  C  _ _ _ _ _ hM _ _ hW _ (lv_sub hl [1, 2, 3, 4, 0] rfl)
        · replace hM := it_f hc hM
          refine lv_iload_n (pc := 58) hx hb dM_branches_58 rfl (lv_at hl 4 rfl) ?_
          refine lv_bipush (pc := 59) (v := 16) hx hb dM_branches_59 (by decide) ?_
          refine lv_icmp_ge (pc := 61) (tgt := 68) hx hb dM_branches_61 (by decide) (fun hc => ?_) (fun hc => ?_)
          · replace hM := it_t hc hM
            exact bM_branches_68 N  C  _ _ _ _ _ hM _ _ hW _ (lv_sub hl [1, 2, 3, 4, 0] rfl)
          · replace hM := it_f hc hM
            refine lv_iconst (pc := 64) (v := 1) hx hb dM_branches_64 (by decide) ?_
            refine lv_goto (pc := 65) (tgt := 69) hx hb dM_branches_65 (by decide) ?_
            exact bM_branches_69 N  C  _ _ _ _ _ _ hM _ _ hW _ (lv_sub hl [1, 2, 3, 4, 0] rfl)
  · replace hM := it_t hc hM
    obtain ⟨rfl, rfl⟩ := sm_p hM
    exact x_retMv (pc := 34) C rfl hW dM_branches_34
def M_branches_17 (N : Nat) (x1 : Int32) (x2 : Int32) (x3 : Int32) (σ : MS) : Option (Int32 × MS) :=
  cl (M_behind N σ) (fun r1 σ2 => M_branches_25 N  x1 x2 x3 r1 σ2)
set_option maxHeartbeats 4000000 in
set_option maxRecDepth 100000 in
theorem bM_branches_17 (N : Nat)  {r : Int32} {σ' : MS} (C : CxM p s m args meth c cM_branches 6 none D dA A) (x1 : Int32) (x2 : Int32) (x3 : Int32) (σ : MS) (hM : M_branches_17 N  x1 x2 x3 σ = some (r, σ')) (H : Heap) (locs : List Loc) (hW : WdM D dA h A s σ H locs) (ls : Array Slot) (hl : lv_has ls 6 [(0, .ref (h 0)), (1, .int x1), (2, .int x2), (3, .int x3)]) : W p l e rm_branches s m args below meth c H locs 0 0 (MQ below (QM D dA h A σ' none) args s 0 0 A) (F0 m 17 ls []) := by
  have hx := C.1.1
  have hb := C.1.2.1
  have hown := C.1.2.2.2.2.1
  have hT := C.1.2.2.2.2.2.1
  unfold M_branches_17 at hM
  refine lv_aload_n (pc := 17) hx hb dM_branches_17 rfl (lv_at hl 0 rfl) ?_
  obtain ⟨r1, σ2, hr1, hM⟩ := cl_some hM
  refine x_callMi (pc := 18) C hW (kM_behind l D dA h N _ hr1) gM_behind_601 ⟨rfl, by decide, by decide, by decide +kernel⟩ ⟨rfl, rfl⟩ ⟨by decide, by decide⟩ ⟨by decide, by decide⟩ (As := []) (n := 0) rfl hl.1 rfl (Nat.le_of_ble_eq_true rfl) dM_branches_18 (fun H locs hW => ?_)
  refine lv_goto (pc := 21) (tgt := 25) hx hb dM_branches_21 (by decide) ?_
  exact bM_branches_25 N  C  _ _ _ _ _ hM _ _ hW _ (lv_sub hl [0, 1, 2, 3] rfl)
def M_branches (N : Nat) (x1 : Int32) (x2 : Int32) (σ : MS) : Option (Int32 × MS) :=
  cl (M_taken N σ) (fun r1 σ2 => (if x1 = (7 : Int32) then M_branches_17 N  x1 x2 r1 σ2 else (if x1 = (37 : Int32) then M_branches_17 N  x1 x2 r1 σ2 else M_branches_25 N  x1 x2 r1 (0 : Int32) σ2)))
set_option maxHeartbeats 4000000 in
set_option maxRecDepth 100000 in
theorem bM_branches_0 (N : Nat)  {r : Int32} {σ' : MS} (C : CxM p s m args meth c cM_branches 6 none D dA A) (x1 : Int32) (x2 : Int32) (σ : MS) (hM : M_branches N  x1 x2 σ = some (r, σ')) (H : Heap) (locs : List Loc) (hW : WdM D dA h A s σ H locs) (ls : Array Slot) (hl : lv_has ls 6 [(0, .ref (h 0)), (1, .int x1), (2, .int x2)]) : W p l e rm_branches s m args below meth c H locs 0 0 (MQ below (QM D dA h A σ' none) args s 0 0 A) (F0 m 0 ls []) := by
  have hx := C.1.1
  have hb := C.1.2.1
  have hown := C.1.2.2.2.2.1
  have hT := C.1.2.2.2.2.2.1
  unfold M_branches at hM
  refine lv_aload_n (pc := 0) hx hb dM_branches_0 rfl (lv_at hl 0 rfl) ?_
  obtain ⟨r1, σ2, hr1, hM⟩ := cl_some hM
  refine x_callMi (pc := 1) C hW (kM_taken l D dA h N _ hr1) gM_taken_541 ⟨rfl, by decide, by decide, by decide +kernel⟩ ⟨rfl, rfl⟩ ⟨by decide, by decide⟩ ⟨by decide, by decide⟩ (As := []) (n := 0) rfl hl.1 rfl (Nat.le_of_ble_eq_true rfl) dM_branches_1 (fun H locs hW => ?_)
  refine lv_istore_n (pc := 4) (lv' := [(3, .int r1), (0, .ref (h 0)), (1, .int x1), (2, .int x2)]) hx hb dM_branches_4 rfl hl (by decide) rfl (fun ls hl => ?_)
  refine lv_iload_n (pc := 5) hx hb dM_branches_5 rfl (lv_at hl 2 rfl) ?_
  refine lv_bipush (pc := 6) (v := 7) hx hb dM_branches_6 (by decide) ?_
  refine lv_icmp_eq (pc := 8) (tgt := 17) hx hb dM_branches_8 (by decide) (fun hc => ?_) (fun hc => ?_)
  · replace hM := it_t hc hM
    exact bM_branches_17 N  C  _ _ _ _ hM _ _ hW _ (lv_sub hl [1, 2, 3, 0] rfl)
  · replace hM := it_f hc hM
    refine lv_iload_n (pc := 11) hx hb dM_branches_11 rfl (lv_at hl 2 rfl) ?_
    refine lv_bipush (pc := 12) (v := 37) hx hb dM_branches_12 (by decide) ?_
    refine lv_icmp_ne (pc := 14) (tgt := 24) hx hb dM_branches_14 (by decide) (fun hc => ?_) (fun hc => ?_)
    · replace hM := it_f hc hM
      refine lv_iconst (pc := 24) (v := 0) hx hb dM_branches_24 (by decide) ?_
      exact bM_branches_25 N  C  _ _ _ _ _ hM _ _ hW _ (lv_sub hl [1, 2, 3, 0] rfl)
    · replace hM := it_t hc hM
      exact bM_branches_17 N  C  _ _ _ _ hM _ _ hW _ (lv_sub hl [1, 2, 3, 0] rfl)
theorem kM_branches (l : Launch) (D : va_G) (dA : Nat → ClassId) (h : Nat → Nat) (N : Nat) (x1 : Int32) (x2 : Int32) (σ : MS) {r : Int32} {σ' : MS} (hM : M_branches N x1 x2 σ = some (r, σ')) : KM l D dA yM_branches cM_branches 6 none rm_branches h σ [.int x1, .int x2] none σ' := x_enterM rfl (Nat.le_of_ble_eq_true rfl) (fun p e s m args below meth c A C hW ls hl => bM_branches_0 N C x1 x2 σ hM s.heap [] hW ls hl)
def M_define (x1 : Int32) (x2 : Int32) (x3 : Int32) (x4 : Int32) (σ : MS) : Option (Int32 × MS) :=
  gd (inB (σ.1 5) 2060) (bnd (sA σ 5 (σ.1 5).toNatClampNeg (x1 ||| (x3 <<< ((13 : Int32) &&& 31)))) (fun σ2 => gd (inB (σ2.1 5) 2060) (bnd (sA σ2 6 (σ2.1 5).toNatClampNeg x4) (fun σ4 => bnd (sF σ4 5 ((σ4.1 5) + (1 : Int32))) (fun σ5 => some ((0 : Int32), σ5))))))
set_option maxHeartbeats 4000000 in
set_option maxRecDepth 100000 in
theorem bM_define_0  {r : Int32} {σ' : MS} (C : CxM p s m args meth c cM_define 5 none D dA A) (x1 : Int32) (x2 : Int32) (x3 : Int32) (x4 : Int32) (σ : MS) (hM : M_define  x1 x2 x3 x4 σ = some (r, σ')) (H : Heap) (locs : List Loc) (hW : WdM D dA h A s σ H locs) (ls : Array Slot) (hl : lv_has ls 5 [(0, .ref (h 0)), (1, .int x1), (2, .int x2), (3, .int x3), (4, .int x4)]) : W p l e rm_define s m args below meth c H locs 0 0 (MQ below (QM D dA h A σ' none) args s 0 0 A) (F0 m 0 ls []) := by
  have hx := C.1.1
  have hb := C.1.2.1
  have hown := C.1.2.2.2.2.1
  have hT := C.1.2.2.2.2.2.1
  unfold M_define at hM
  refine lv_aload_n (pc := 0) hx hb dM_define_0 rfl (lv_at hl 0 rfl) ?_
  refine gM (pc := 1) C hW 14 (by decide) q_1671 rfl rfl dM_define_1 ?_
  refine lv_aload_n (pc := 4) hx hb dM_define_4 rfl (lv_at hl 0 rfl) ?_
  refine gM (pc := 5) C hW 13 (by decide) q_1670 rfl rfl dM_define_5 ?_
  refine lv_iload_n (pc := 8) hx hb dM_define_8 rfl (lv_at hl 1 rfl) ?_
  refine lv_iload_n (pc := 9) hx hb dM_define_9 rfl (lv_at hl 3 rfl) ?_
  refine lv_bipush (pc := 10) (v := 13) hx hb dM_define_10 (by decide) ?_
  refine lv_ishl (pc := 12) hx hb dM_define_12 ?_
  refine lv_ior (pc := 13) hx hb dM_define_13 ?_
  obtain ⟨hg1, hM⟩ := gd_some hM
  refine x_stI (pc := 14) C hW 9 5 rfl hg1 (sa_label dA h _ _ _) dM_define_14 (fun H locs hW => ?_)
  obtain ⟨σ2, eσ2, hM⟩ := bnd_some hM
  rw [← eσ2] at hW
  refine lv_aload_n (pc := 15) hx hb dM_define_15 rfl (lv_at hl 0 rfl) ?_
  refine gM (pc := 16) C hW 15 (by decide) q_1672 rfl rfl dM_define_16 ?_
  refine lv_aload_n (pc := 19) hx hb dM_define_19 rfl (lv_at hl 0 rfl) ?_
  refine gM (pc := 20) C hW 13 (by decide) q_1670 rfl rfl dM_define_20 ?_
  refine lv_iload (pc := 23) hx hb dM_define_23 (lv_at hl 4 rfl) ?_
  obtain ⟨hg3, hM⟩ := gd_some hM
  refine x_stI (pc := 25) C hW 10 6 rfl hg3 (sa_where dA h _ _ _) dM_define_25 (fun H locs hW => ?_)
  obtain ⟨σ4, eσ4, hM⟩ := bnd_some hM
  rw [← eσ4] at hW
  refine lv_aload_n (pc := 26) hx hb dM_define_26 rfl (lv_at hl 0 rfl) ?_
  refine lv_dup (pc := 27) hx hb dM_define_27 rfl ?_
  refine gM (pc := 28) C hW 13 (by decide) q_1670 rfl rfl dM_define_28 ?_
  refine lv_iconst (pc := 31) (v := 1) hx hb dM_define_31 (by decide) ?_
  refine lv_iadd (pc := 32) hx hb dM_define_32 ?_
  refine pM (pc := 33) (ty := .int) C hW 13 5 (by decide) q_1670 rfl rfl (by decide +kernel) rfl rfl (st_labels dA h _ _) dM_define_33 (fun H locs hW => ?_)
  obtain ⟨σ5, eσ5, hM⟩ := bnd_some hM
  rw [← eσ5] at hW
  obtain ⟨rfl, rfl⟩ := sm_p hM
  exact x_retMv (pc := 36) C rfl hW dM_define_36
theorem kM_define (l : Launch) (D : va_G) (dA : Nat → ClassId) (h : Nat → Nat) (x1 : Int32) (x2 : Int32) (x3 : Int32) (x4 : Int32) (σ : MS) {r : Int32} {σ' : MS} (hM : M_define x1 x2 x3 x4 σ = some (r, σ')) : KM l D dA yM_define cM_define 5 none rm_define h σ [.int x1, .int x2, .int x3, .int x4] none σ' := x_enterM rfl (Nat.le_of_ble_eq_true rfl) (fun p e s m args below meth c A C hW ls hl => bM_define_0 C x1 x2 x3 x4 σ hM s.heap [] hW ls hl)
def M_fixed_66 (N : Nat) (x3 : Int32) (σ : MS) : Option (Int32 × MS) :=
  some (x3, σ)
set_option maxHeartbeats 4000000 in
set_option maxRecDepth 100000 in
theorem bM_fixed_66 (N : Nat)  {r : Int32} {σ' : MS} (C : CxM p s m args meth c cM_fixed 4 (some .int) D dA A) (x3 : Int32) (σ : MS) (hM : M_fixed_66 N  x3 σ = some (r, σ')) (H : Heap) (locs : List Loc) (hW : WdM D dA h A s σ H locs) (ls : Array Slot) (hl : lv_has ls 4 [(3, .int x3)]) : W p l e rm_fixed s m args below meth c H locs 0 0 (MQ below (QM D dA h A σ' (some (.int r))) args s 0 0 A) (F0 m 66 ls []) := by
  have hx := C.1.1
  have hb := C.1.2.1
  have hown := C.1.2.2.2.2.1
  have hT := C.1.2.2.2.2.2.1
  unfold M_fixed_66 at hM
  refine lv_iload_n (pc := 66) hx hb dM_fixed_66 rfl (lv_at hl 0 rfl) ?_
  obtain ⟨rfl, rfl⟩ := sm_p hM
  exact x_retMi (pc := 67) C rfl hW dM_fixed_67
def M_fixed_60 (N : Nat) (x3 : Int32) (σ : MS) : Option (Int32 × MS) :=
  cl (M_blame  (6 : Int32) σ) (fun r1 σ2 => M_fixed_66 N  x3 σ2)
set_option maxHeartbeats 4000000 in
set_option maxRecDepth 100000 in
theorem bM_fixed_60 (N : Nat)  {r : Int32} {σ' : MS} (C : CxM p s m args meth c cM_fixed 4 (some .int) D dA A) (x3 : Int32) (σ : MS) (hM : M_fixed_60 N  x3 σ = some (r, σ')) (H : Heap) (locs : List Loc) (hW : WdM D dA h A s σ H locs) (ls : Array Slot) (hl : lv_has ls 4 [(0, .ref (h 0)), (3, .int x3)]) : W p l e rm_fixed s m args below meth c H locs 0 0 (MQ below (QM D dA h A σ' (some (.int r))) args s 0 0 A) (F0 m 60 ls []) := by
  have hx := C.1.1
  have hb := C.1.2.1
  have hown := C.1.2.2.2.2.1
  have hT := C.1.2.2.2.2.2.1
  unfold M_fixed_60 at hM
  refine lv_aload_n (pc := 60) hx hb dM_fixed_60 rfl (lv_at hl 0 rfl) ?_
  refine lv_bipush (pc := 61) (v := 6) hx hb dM_fixed_61 (by decide) ?_
  obtain ⟨r1, σ2, hr1, hM⟩ := cl_some hM
  refine x_callMv (pc := 63) C hW (kM_blame l D dA h  (6 : Int32) _ hr1) gM_blame_429 ⟨rfl, by decide, by decide, by decide +kernel⟩ ⟨rfl, rfl⟩ ⟨by decide, by decide⟩ ⟨by decide, by decide⟩ (As := [.int (6 : Int32)]) (n := 1) rfl hl.1 rfl (Nat.le_of_ble_eq_true rfl) dM_fixed_63 (fun H locs hW => ?_)
  exact bM_fixed_66 N  C  _ _ hM _ _ hW _ (lv_sub hl [1] rfl)
def M_fixed (N : Nat) (x1 : Int32) (x2 : Int32) (σ : MS) : Option (Int32 × MS) :=
  cl (M_expression N σ) (fun r1 σ2 => (if (σ2.1 17) = 0 then (if (σ2.1 14) = 0 then (if (σ2.1 26) = 0 then (if (σ2.1 25) = 0 then (if r1 < x1 then M_fixed_60 N  r1 σ2 else (if r1 ≤ x2 then M_fixed_66 N  r1 σ2 else M_fixed_60 N  r1 σ2)) else cl (M_blame  (9 : Int32) σ2) (fun r3 σ4 => M_fixed_66 N  r1 σ4)) else cl (M_blame  (5 : Int32) σ2) (fun r5 σ6 => M_fixed_66 N  r1 σ6)) else M_fixed_66 N  r1 σ2) else M_fixed_66 N  r1 σ2))
set_option maxHeartbeats 4000000 in
set_option maxRecDepth 100000 in
theorem bM_fixed_0 (N : Nat)  {r : Int32} {σ' : MS} (C : CxM p s m args meth c cM_fixed 4 (some .int) D dA A) (x1 : Int32) (x2 : Int32) (σ : MS) (hM : M_fixed N  x1 x2 σ = some (r, σ')) (H : Heap) (locs : List Loc) (hW : WdM D dA h A s σ H locs) (ls : Array Slot) (hl : lv_has ls 4 [(0, .ref (h 0)), (1, .int x1), (2, .int x2)]) : W p l e rm_fixed s m args below meth c H locs 0 0 (MQ below (QM D dA h A σ' (some (.int r))) args s 0 0 A) (F0 m 0 ls []) := by
  have hx := C.1.1
  have hb := C.1.2.1
  have hown := C.1.2.2.2.2.1
  have hT := C.1.2.2.2.2.2.1
  unfold M_fixed at hM
  refine lv_aload_n (pc := 0) hx hb dM_fixed_0 rfl (lv_at hl 0 rfl) ?_
  obtain ⟨r1, σ2, hr1, hM⟩ := cl_some hM
  refine x_callMi (pc := 1) C hW (kM_expression l D dA h N _ hr1) gM_expression_534 ⟨rfl, by decide, by decide, by decide +kernel⟩ ⟨rfl, rfl⟩ ⟨by decide, by decide⟩ ⟨by decide, by decide⟩ (As := []) (n := 0) rfl hl.1 rfl (Nat.le_of_ble_eq_true rfl) dM_fixed_1 (fun H locs hW => ?_)
  refine lv_istore_n (pc := 4) (lv' := [(3, .int r1), (0, .ref (h 0)), (1, .int x1), (2, .int x2)]) hx hb dM_fixed_4 rfl hl (by decide) rfl (fun ls hl => ?_)
  refine lv_aload_n (pc := 5) hx hb dM_fixed_5 rfl (lv_at hl 1 rfl) ?_
  refine gM (pc := 6) C hW 27 (by decide) q_1684 rfl rfl dM_fixed_6 ?_
  refine lv_if_ne (pc := 9) (tgt := 66) hx hb dM_fixed_9 (by decide) (fun hc => ?_) (fun hc => ?_)
  · replace hM := it_f hc hM
    exact bM_fixed_66 N  C  _ _ hM _ _ hW _ (lv_sub hl [0] rfl)
  · replace hM := it_t hc hM
    refine lv_aload_n (pc := 12) hx hb dM_fixed_12 rfl (lv_at hl 1 rfl) ?_
    refine gM (pc := 13) C hW 24 (by decide) q_1681 rfl rfl dM_fixed_13 ?_
    refine lv_if_ne (pc := 16) (tgt := 66) hx hb dM_fixed_16 (by decide) (fun hc => ?_) (fun hc => ?_)
    · replace hM := it_f hc hM
      exact bM_fixed_66 N  C  _ _ hM _ _ hW _ (lv_sub hl [0] rfl)
    · replace hM := it_t hc hM
      refine lv_aload_n (pc := 19) hx hb dM_fixed_19 rfl (lv_at hl 1 rfl) ?_
      refine gM (pc := 20) C hW 36 (by decide) q_1693 rfl rfl dM_fixed_20 ?_
      refine lv_if_eq (pc := 23) (tgt := 34) hx hb dM_fixed_23 (by decide) (fun hc => ?_) (fun hc => ?_)
      · replace hM := it_t hc hM
        refine lv_aload_n (pc := 34) hx hb dM_fixed_34 rfl (lv_at hl 1 rfl) ?_
        refine gM (pc := 35) C hW 35 (by decide) q_1692 rfl rfl dM_fixed_35 ?_
        refine lv_if_eq (pc := 38) (tgt := 50) hx hb dM_fixed_38 (by decide) (fun hc => ?_) (fun hc => ?_)
        · replace hM := it_t hc hM
          refine lv_iload_n (pc := 50) hx hb dM_fixed_50 rfl (lv_at hl 0 rfl) ?_
          refine lv_iload_n (pc := 51) hx hb dM_fixed_51 rfl (lv_at hl 2 rfl) ?_
          refine lv_icmp_lt (pc := 52) (tgt := 60) hx hb dM_fixed_52 (by decide) (fun hc => ?_) (fun hc => ?_)
          · replace hM := it_t hc hM
            exact bM_fixed_60 N  C  _ _ hM _ _ hW _ (lv_sub hl [1, 0] rfl)
          · replace hM := it_f hc hM
            refine lv_iload_n (pc := 55) hx hb dM_fixed_55 rfl (lv_at hl 0 rfl) ?_
            refine lv_iload_n (pc := 56) hx hb dM_fixed_56 rfl (lv_at hl 3 rfl) ?_
            refine lv_icmp_le (pc := 57) (tgt := 66) hx hb dM_fixed_57 (by decide) (fun hc => ?_) (fun hc => ?_)
            · replace hM := it_t hc hM
              exact bM_fixed_66 N  C  _ _ hM _ _ hW _ (lv_sub hl [0] rfl)
            · replace hM := it_f hc hM
              exact bM_fixed_60 N  C  _ _ hM _ _ hW _ (lv_sub hl [1, 0] rfl)
        · replace hM := it_f hc hM
          refine lv_aload_n (pc := 41) hx hb dM_fixed_41 rfl (lv_at hl 1 rfl) ?_
          refine lv_bipush (pc := 42) (v := 9) hx hb dM_fixed_42 (by decide) ?_
          obtain ⟨r3, σ4, hr3, hM⟩ := cl_some hM
          refine x_callMv (pc := 44) C hW (kM_blame l D dA h  (9 : Int32) _ hr3) gM_blame_429 ⟨rfl, by decide, by decide, by decide +kernel⟩ ⟨rfl, rfl⟩ ⟨by decide, by decide⟩ ⟨by decide, by decide⟩ (As := [.int (9 : Int32)]) (n := 1) rfl hl.1 rfl (Nat.le_of_ble_eq_true rfl) dM_fixed_44 (fun H locs hW => ?_)
          refine lv_goto (pc := 47) (tgt := 66) hx hb dM_fixed_47 (by decide) ?_
          exact bM_fixed_66 N  C  _ _ hM _ _ hW _ (lv_sub hl [0] rfl)
      · replace hM := it_f hc hM
        refine lv_aload_n (pc := 26) hx hb dM_fixed_26 rfl (lv_at hl 1 rfl) ?_
        refine lv_iconst (pc := 27) (v := 5) hx hb dM_fixed_27 (by decide) ?_
        obtain ⟨r5, σ6, hr5, hM⟩ := cl_some hM
        refine x_callMv (pc := 28) C hW (kM_blame l D dA h  (5 : Int32) _ hr5) gM_blame_429 ⟨rfl, by decide, by decide, by decide +kernel⟩ ⟨rfl, rfl⟩ ⟨by decide, by decide⟩ ⟨by decide, by decide⟩ (As := [.int (5 : Int32)]) (n := 1) rfl hl.1 rfl (Nat.le_of_ble_eq_true rfl) dM_fixed_28 (fun H locs hW => ?_)
        refine lv_goto (pc := 31) (tgt := 66) hx hb dM_fixed_31 (by decide) ?_
        exact bM_fixed_66 N  C  _ _ hM _ _ hW _ (lv_sub hl [0] rfl)
theorem kM_fixed (l : Launch) (D : va_G) (dA : Nat → ClassId) (h : Nat → Nat) (N : Nat) (x1 : Int32) (x2 : Int32) (σ : MS) {r : Int32} {σ' : MS} (hM : M_fixed N x1 x2 σ = some (r, σ')) : KM l D dA yM_fixed cM_fixed 4 (some .int) rm_fixed h σ [.int x1, .int x2] (some (.int r)) σ' := x_enterM rfl (Nat.le_of_ble_eq_true rfl) (fun p e s m args below meth c A C hW ls hl => bM_fixed_0 N C x1 x2 σ hM s.heap [] hW ls hl)
def M_constant_90 (N : Nat)  (σ : MS) : Option (Int32 × MS) :=
  some ((0 : Int32), σ)
set_option maxHeartbeats 4000000 in
set_option maxRecDepth 100000 in
theorem bM_constant_90 (N : Nat)  {r : Int32} {σ' : MS} (C : CxM p s m args meth c cM_constant 4 none D dA A)  (σ : MS) (hM : M_constant_90 N   σ = some (r, σ')) (H : Heap) (locs : List Loc) (hW : WdM D dA h A s σ H locs) (ls : Array Slot) (hl : lv_has ls 4 []) : W p l e rm_constant s m args below meth c H locs 0 0 (MQ below (QM D dA h A σ' none) args s 0 0 A) (F0 m 90 ls []) := by
  have hx := C.1.1
  have hb := C.1.2.1
  have hown := C.1.2.2.2.2.1
  have hT := C.1.2.2.2.2.2.1
  unfold M_constant_90 at hM
  obtain ⟨rfl, rfl⟩ := sm_p hM
  exact x_retMv (pc := 90) C rfl hW dM_constant_90
def M_constant_49 (N : Nat) (x1 : Int32) (x2 : Int32) (σ : MS) : Option (Int32 × MS) :=
  cl (M_comma N σ) (fun r1 σ2 => (if r1 = 0 then some ((0 : Int32), σ2) else cl (M_fixed N (-2147483648 : Int32) (2147483647 : Int32) σ2) (fun r3 σ4 => (if (σ4.1 17) = 0 then (if (σ4.1 14) = 0 then cl (M_define  x1 x2 (2 : Int32) r3 σ4) (fun r5 σ6 => M_constant_90 N  σ6) else M_constant_90 N  σ4) else M_constant_90 N  σ4))))
set_option maxHeartbeats 4000000 in
set_option maxRecDepth 100000 in
theorem bM_constant_49 (N : Nat)  {r : Int32} {σ' : MS} (C : CxM p s m args meth c cM_constant 4 none D dA A) (x1 : Int32) (x2 : Int32) (σ : MS) (hM : M_constant_49 N  x1 x2 σ = some (r, σ')) (H : Heap) (locs : List Loc) (hW : WdM D dA h A s σ H locs) (ls : Array Slot) (hl : lv_has ls 4 [(0, .ref (h 0)), (1, .int x1), (2, .int x2)]) : W p l e rm_constant s m args below meth c H locs 0 0 (MQ below (QM D dA h A σ' none) args s 0 0 A) (F0 m 49 ls []) := by
  have hx := C.1.1
  have hb := C.1.2.1
  have hown := C.1.2.2.2.2.1
  have hT := C.1.2.2.2.2.2.1
  unfold M_constant_49 at hM
  refine lv_aload_n (pc := 49) hx hb dM_constant_49 rfl (lv_at hl 0 rfl) ?_
  obtain ⟨r1, σ2, hr1, hM⟩ := cl_some hM
  refine x_callMi (pc := 50) C hW (kM_comma l D dA h N _ hr1) gM_comma_591 ⟨rfl, by decide, by decide, by decide +kernel⟩ ⟨rfl, rfl⟩ ⟨by decide, by decide⟩ ⟨by decide, by decide⟩ (As := []) (n := 0) rfl hl.1 rfl (Nat.le_of_ble_eq_true rfl) dM_constant_50 (fun H locs hW => ?_)
  refine lv_if_ne (pc := 53) (tgt := 57) hx hb dM_constant_53 (by decide) (fun hc => ?_) (fun hc => ?_)
  · replace hM := it_f hc hM
    refine lv_aload_n (pc := 57) hx hb dM_constant_57 rfl (lv_at hl 0 rfl) ?_
    refine lv_ldcw (pc := 58) (v := -2147483648) hx hb hown (hT _ q_1917) dM_constant_58 ?_
    refine lv_ldcw (pc := 61) (v := 2147483647) hx hb hown (hT _ q_1918) dM_constant_61 ?_
    obtain ⟨r3, σ4, hr3, hM⟩ := cl_some hM
    refine x_callMi (pc := 64) C hW (kM_fixed l D dA h N (-2147483648 : Int32) (2147483647 : Int32) _ hr3) gM_fixed_614 ⟨rfl, by decide, by decide, by decide +kernel⟩ ⟨rfl, rfl⟩ ⟨by decide, by decide⟩ ⟨by decide, by decide⟩ (As := [.int (-2147483648 : Int32), .int (2147483647 : Int32)]) (n := 2) rfl hl.1 rfl (Nat.le_of_ble_eq_true rfl) dM_constant_64 (fun H locs hW => ?_)
    refine lv_istore_n (pc := 67) (lv' := [(3, .int r3), (0, .ref (h 0)), (1, .int x1), (2, .int x2)]) hx hb dM_constant_67 rfl hl (by decide) rfl (fun ls hl => ?_)
    refine lv_aload_n (pc := 68) hx hb dM_constant_68 rfl (lv_at hl 1 rfl) ?_
    refine gM (pc := 69) C hW 27 (by decide) q_1684 rfl rfl dM_constant_69 ?_
    refine lv_if_ne (pc := 72) (tgt := 90) hx hb dM_constant_72 (by decide) (fun hc => ?_) (fun hc => ?_)
    · replace hM := it_f hc hM
      exact bM_constant_90 N  C   _ hM _ _ hW _ (lv_sub hl [] rfl)
    · replace hM := it_t hc hM
      refine lv_aload_n (pc := 75) hx hb dM_constant_75 rfl (lv_at hl 1 rfl) ?_
      refine gM (pc := 76) C hW 24 (by decide) q_1681 rfl rfl dM_constant_76 ?_
      refine lv_if_ne (pc := 79) (tgt := 90) hx hb dM_constant_79 (by decide) (fun hc => ?_) (fun hc => ?_)
      · replace hM := it_f hc hM
        exact bM_constant_90 N  C   _ hM _ _ hW _ (lv_sub hl [] rfl)
      · replace hM := it_t hc hM
        refine lv_aload_n (pc := 82) hx hb dM_constant_82 rfl (lv_at hl 1 rfl) ?_
        refine lv_iload_n (pc := 83) hx hb dM_constant_83 rfl (lv_at hl 2 rfl) ?_
        refine lv_iload_n (pc := 84) hx hb dM_constant_84 rfl (lv_at hl 3 rfl) ?_
        refine lv_iconst (pc := 85) (v := 2) hx hb dM_constant_85 (by decide) ?_
        refine lv_iload_n (pc := 86) hx hb dM_constant_86 rfl (lv_at hl 0 rfl) ?_
        obtain ⟨r5, σ6, hr5, hM⟩ := cl_some hM
        refine x_callMv (pc := 87) C hW (kM_define l D dA h  x1 x2 (2 : Int32) r3 _ hr5) gM_define_640 ⟨rfl, by decide, by decide, by decide +kernel⟩ ⟨rfl, rfl⟩ ⟨by decide, by decide⟩ ⟨by decide, by decide⟩ (As := [.int x1, .int x2, .int (2 : Int32), .int r3]) (n := 4) rfl hl.1 rfl (Nat.le_of_ble_eq_true rfl) dM_constant_87 (fun H locs hW => ?_)
        exact bM_constant_90 N  C   _ hM _ _ hW _ (lv_sub hl [] rfl)
  · replace hM := it_t hc hM
    obtain ⟨rfl, rfl⟩ := sm_p hM
    exact x_retMv (pc := 56) C rfl hW dM_constant_56
def M_constant_44 (N : Nat) (x1 : Int32) (x2 : Int32) (σ : MS) : Option (Int32 × MS) :=
  cl (M_blame  (4 : Int32) σ) (fun r1 σ2 => M_constant_49 N  x1 x2 σ2)
set_option maxHeartbeats 4000000 in
set_option maxRecDepth 100000 in
theorem bM_constant_44 (N : Nat)  {r : Int32} {σ' : MS} (C : CxM p s m args meth c cM_constant 4 none D dA A) (x1 : Int32) (x2 : Int32) (σ : MS) (hM : M_constant_44 N  x1 x2 σ = some (r, σ')) (H : Heap) (locs : List Loc) (hW : WdM D dA h A s σ H locs) (ls : Array Slot) (hl : lv_has ls 4 [(0, .ref (h 0)), (1, .int x1), (2, .int x2)]) : W p l e rm_constant s m args below meth c H locs 0 0 (MQ below (QM D dA h A σ' none) args s 0 0 A) (F0 m 44 ls []) := by
  have hx := C.1.1
  have hb := C.1.2.1
  have hown := C.1.2.2.2.2.1
  have hT := C.1.2.2.2.2.2.1
  unfold M_constant_44 at hM
  refine lv_aload_n (pc := 44) hx hb dM_constant_44 rfl (lv_at hl 0 rfl) ?_
  refine lv_iconst (pc := 45) (v := 4) hx hb dM_constant_45 (by decide) ?_
  obtain ⟨r1, σ2, hr1, hM⟩ := cl_some hM
  refine x_callMv (pc := 46) C hW (kM_blame l D dA h  (4 : Int32) _ hr1) gM_blame_429 ⟨rfl, by decide, by decide, by decide +kernel⟩ ⟨rfl, rfl⟩ ⟨by decide, by decide⟩ ⟨by decide, by decide⟩ (As := [.int (4 : Int32)]) (n := 1) rfl hl.1 rfl (Nat.le_of_ble_eq_true rfl) dM_constant_46 (fun H locs hW => ?_)
  exact bM_constant_49 N  C  _ _ _ hM _ _ hW _ (lv_sub hl [0, 1, 2] rfl)
def M_constant (N : Nat)  (σ : MS) : Option (Int32 × MS) :=
  cl (M_needs N (1 : Int32) σ) (fun r1 σ2 => (if r1 = 0 then some ((0 : Int32), σ2) else (if (σ2.1 17) = 0 then cr (M_register N (σ2.1 11) (σ2.1 12) σ2) (fun r3 => (if 0 ≤ r3 then M_constant_44 N  (σ2.1 11) (σ2.1 12) σ2 else cr (M_find N (σ2.1 11) (σ2.1 12) σ2) (fun r4 => (if r4 < 0 then M_constant_49 N  (σ2.1 11) (σ2.1 12) σ2 else M_constant_44 N  (σ2.1 11) (σ2.1 12) σ2)))) else M_constant_49 N  (σ2.1 11) (σ2.1 12) σ2)))
set_option maxHeartbeats 4000000 in
set_option maxRecDepth 100000 in
theorem bM_constant_0 (N : Nat)  {r : Int32} {σ' : MS} (C : CxM p s m args meth c cM_constant 4 none D dA A)  (σ : MS) (hM : M_constant N   σ = some (r, σ')) (H : Heap) (locs : List Loc) (hW : WdM D dA h A s σ H locs) (ls : Array Slot) (hl : lv_has ls 4 [(0, .ref (h 0))]) : W p l e rm_constant s m args below meth c H locs 0 0 (MQ below (QM D dA h A σ' none) args s 0 0 A) (F0 m 0 ls []) := by
  have hx := C.1.1
  have hb := C.1.2.1
  have hown := C.1.2.2.2.2.1
  have hT := C.1.2.2.2.2.2.1
  unfold M_constant at hM
  refine lv_aload_n (pc := 0) hx hb dM_constant_0 rfl (lv_at hl 0 rfl) ?_
  refine lv_iconst (pc := 1) (v := 1) hx hb dM_constant_1 (by decide) ?_
  obtain ⟨r1, σ2, hr1, hM⟩ := cl_some hM
  refine x_callMi (pc := 2) C hW (kM_needs l D dA h N (1 : Int32) _ hr1) gM_needs_515 ⟨rfl, by decide, by decide, by decide +kernel⟩ ⟨rfl, rfl⟩ ⟨by decide, by decide⟩ ⟨by decide, by decide⟩ (As := [.int (1 : Int32)]) (n := 1) rfl hl.1 rfl (Nat.le_of_ble_eq_true rfl) dM_constant_2 (fun H locs hW => ?_)
  refine lv_if_ne (pc := 5) (tgt := 9) hx hb dM_constant_5 (by decide) (fun hc => ?_) (fun hc => ?_)
  · replace hM := it_f hc hM
    refine lv_aload_n (pc := 9) hx hb dM_constant_9 rfl (lv_at hl 0 rfl) ?_
    refine gM (pc := 10) C hW 21 (by decide) q_1678 rfl rfl dM_constant_10 ?_
    refine lv_istore_n (pc := 13) (lv' := [(1, .int (σ2.1 11)), (0, .ref (h 0))]) hx hb dM_constant_13 rfl hl (by decide) rfl (fun ls hl => ?_)
    refine lv_aload_n (pc := 14) hx hb dM_constant_14 rfl (lv_at hl 1 rfl) ?_
    refine gM (pc := 15) C hW 22 (by decide) q_1679 rfl rfl dM_constant_15 ?_
    refine lv_istore_n (pc := 18) (lv' := [(2, .int (σ2.1 12)), (1, .int (σ2.1 11)), (0, .ref (h 0))]) hx hb dM_constant_18 rfl hl (by decide) rfl (fun ls hl => ?_)
    refine lv_aload_n (pc := 19) hx hb dM_constant_19 rfl (lv_at hl 2 rfl) ?_
    refine gM (pc := 20) C hW 27 (by decide) q_1684 rfl rfl dM_constant_20 ?_
    refine lv_if_ne (pc := 23) (tgt := 49) hx hb dM_constant_23 (by decide) (fun hc => ?_) (fun hc => ?_)
    · replace hM := it_f hc hM
      exact bM_constant_49 N  C  _ _ _ hM _ _ hW _ (lv_sub hl [2, 1, 0] rfl)
    · replace hM := it_t hc hM
      refine lv_aload_n (pc := 26) hx hb dM_constant_26 rfl (lv_at hl 2 rfl) ?_
      refine lv_iload_n (pc := 27) hx hb dM_constant_27 rfl (lv_at hl 1 rfl) ?_
      refine lv_iload_n (pc := 28) hx hb dM_constant_28 rfl (lv_at hl 0 rfl) ?_
      obtain ⟨r3, hr3, hM⟩ := cr_some hM
      refine x_callRi (pc := 29) C hW (kM_register l D dA h N (σ2.1 11) (σ2.1 12) _ hr3) gM_register_486 ⟨rfl, by decide, by decide, by decide +kernel⟩ ⟨rfl, rfl⟩ ⟨by decide, by decide⟩ ⟨by decide, by decide⟩ (As := [.int (σ2.1 11), .int (σ2.1 12)]) (n := 2) rfl hl.1 rfl (Nat.le_of_ble_eq_true rfl) dM_constant_29 ?_
      refine lv_if_ge (pc := 32) (tgt := 44) hx hb dM_constant_32 (by decide) (fun hc => ?_) (fun hc => ?_)
      · replace hM := it_t hc hM
        exact bM_constant_44 N  C  _ _ _ hM _ _ hW _ (lv_sub hl [2, 1, 0] rfl)
      · replace hM := it_f hc hM
        refine lv_aload_n (pc := 35) hx hb dM_constant_35 rfl (lv_at hl 2 rfl) ?_
        refine lv_iload_n (pc := 36) hx hb dM_constant_36 rfl (lv_at hl 1 rfl) ?_
        refine lv_iload_n (pc := 37) hx hb dM_constant_37 rfl (lv_at hl 0 rfl) ?_
        obtain ⟨r4, hr4, hM⟩ := cr_some hM
        refine x_callRi (pc := 38) C hW (kM_find l D dA h N (σ2.1 11) (σ2.1 12) _ hr4) gM_find_489 ⟨rfl, by decide, by decide, by decide +kernel⟩ ⟨rfl, rfl⟩ ⟨by decide, by decide⟩ ⟨by decide, by decide⟩ (As := [.int (σ2.1 11), .int (σ2.1 12)]) (n := 2) rfl hl.1 rfl (Nat.le_of_ble_eq_true rfl) dM_constant_38 ?_
        refine lv_if_lt (pc := 41) (tgt := 49) hx hb dM_constant_41 (by decide) (fun hc => ?_) (fun hc => ?_)
        · replace hM := it_t hc hM
          exact bM_constant_49 N  C  _ _ _ hM _ _ hW _ (lv_sub hl [2, 1, 0] rfl)
        · replace hM := it_f hc hM
          exact bM_constant_44 N  C  _ _ _ hM _ _ hW _ (lv_sub hl [2, 1, 0] rfl)
  · replace hM := it_t hc hM
    obtain ⟨rfl, rfl⟩ := sm_p hM
    exact x_retMv (pc := 8) C rfl hW dM_constant_8
theorem kM_constant (l : Launch) (D : va_G) (dA : Nat → ClassId) (h : Nat → Nat) (N : Nat)  (σ : MS) {r : Int32} {σ' : MS} (hM : M_constant N  σ = some (r, σ')) : KM l D dA yM_constant cM_constant 4 none rm_constant h σ [] none σ' := x_enterM rfl (Nat.le_of_ble_eq_true rfl) (fun p e s m args below meth c A C hW ls hl => bM_constant_0 N C  σ hM s.heap [] hW ls hl)
def M_isEnd_26 (N : Nat) (t0 : Int32) (σ : MS) : Option (Int32 × MS) :=
  gd (isB t0) (some (t0, σ))
set_option maxHeartbeats 4000000 in
set_option maxRecDepth 100000 in
theorem bM_isEnd_26 (N : Nat)  {r : Int32} {σ' : MS} (C : CxM p s m args meth c cM_isEnd 2 (some .boolean) D dA A) (t0 : Int32) (σ : MS) (hM : M_isEnd_26 N  t0 σ = some (r, σ')) (H : Heap) (locs : List Loc) (hW : WdM D dA h A s σ H locs) (ls : Array Slot) (hl : lv_has ls 2 []) : W p l e rm_isEnd s m args below meth c H locs 0 0 (MQ below (QM D dA h A σ' (some (.int r))) args s 0 0 A) (F0 m 26 ls [.int t0]) := by
  have hx := C.1.1
  have hb := C.1.2.1
  have hown := C.1.2.2.2.2.1
  have hT := C.1.2.2.2.2.2.1
  unfold M_isEnd_26 at hM
  obtain ⟨hg1, hM⟩ := gd_some hM
  obtain ⟨rfl, rfl⟩ := sm_p hM
  exact x_retMz (pc := 26) C rfl (isB_n hg1) hW dM_isEnd_26
def M_isEnd (N : Nat)  (σ : MS) : Option (Int32 × MS) :=
  cl (M_scan N σ) (fun r1 σ2 => bnd (sF σ2 9 (σ.1 9)) (fun σ3 => (if (σ3.1 10) = 0 then M_isEnd_26 N  (1 : Int32) σ3 else M_isEnd_26 N  (0 : Int32) σ3)))
set_option maxHeartbeats 4000000 in
set_option maxRecDepth 100000 in
theorem bM_isEnd_0 (N : Nat)  {r : Int32} {σ' : MS} (C : CxM p s m args meth c cM_isEnd 2 (some .boolean) D dA A)  (σ : MS) (hM : M_isEnd N   σ = some (r, σ')) (H : Heap) (locs : List Loc) (hW : WdM D dA h A s σ H locs) (ls : Array Slot) (hl : lv_has ls 2 [(0, .ref (h 0))]) : W p l e rm_isEnd s m args below meth c H locs 0 0 (MQ below (QM D dA h A σ' (some (.int r))) args s 0 0 A) (F0 m 0 ls []) := by
  have hx := C.1.1
  have hb := C.1.2.1
  have hown := C.1.2.2.2.2.1
  have hT := C.1.2.2.2.2.2.1
  unfold M_isEnd at hM
  refine lv_aload_n (pc := 0) hx hb dM_isEnd_0 rfl (lv_at hl 0 rfl) ?_
  refine gM (pc := 1) C hW 19 (by decide) q_1676 rfl rfl dM_isEnd_1 ?_
  refine lv_istore_n (pc := 4) (lv' := [(1, .int (σ.1 9)), (0, .ref (h 0))]) hx hb dM_isEnd_4 rfl hl (by decide) rfl (fun ls hl => ?_)
  refine lv_aload_n (pc := 5) hx hb dM_isEnd_5 rfl (lv_at hl 1 rfl) ?_
  obtain ⟨r1, σ2, hr1, hM⟩ := cl_some hM
  refine x_callMv (pc := 6) C hW (kM_scan l D dA h N _ hr1) gM_scan_426 ⟨rfl, by decide, by decide, by decide +kernel⟩ ⟨rfl, rfl⟩ ⟨by decide, by decide⟩ ⟨by decide, by decide⟩ (As := []) (n := 0) rfl hl.1 rfl (Nat.le_of_ble_eq_true rfl) dM_isEnd_6 (fun H locs hW => ?_)
  refine lv_aload_n (pc := 9) hx hb dM_isEnd_9 rfl (lv_at hl 1 rfl) ?_
  refine lv_iload_n (pc := 10) hx hb dM_isEnd_10 rfl (lv_at hl 0 rfl) ?_
  refine pM (pc := 11) (ty := .int) C hW 19 9 (by decide) q_1676 rfl rfl (by decide +kernel) rfl rfl (st_at dA h _ _) dM_isEnd_11 (fun H locs hW => ?_)
  obtain ⟨σ3, eσ3, hM⟩ := bnd_some hM
  rw [← eσ3] at hW
  refine lv_aload_n (pc := 14) hx hb dM_isEnd_14 rfl (lv_at hl 1 rfl) ?_
  refine gM (pc := 15) C hW 20 (by decide) q_1677 rfl rfl dM_isEnd_15 ?_
  refine lv_if_ne (pc := 18) (tgt := 25) hx hb dM_isEnd_18 (by decide) (fun hc => ?_) (fun hc => ?_)
  · replace hM := it_f hc hM
    refine lv_iconst (pc := 25) (v := 0) hx hb dM_isEnd_25 (by decide) ?_
    exact bM_isEnd_26 N  C  _ _ hM _ _ hW _ (lv_sub hl [] rfl)
  · replace hM := it_t hc hM
    refine lv_iconst (pc := 21) (v := 1) hx hb dM_isEnd_21 (by decide) ?_
    refine lv_goto (pc := 22) (tgt := 26) hx hb dM_isEnd_22 (by decide) ?_
    exact bM_isEnd_26 N  C  _ _ hM _ _ hW _ (lv_sub hl [] rfl)
theorem kM_isEnd (l : Launch) (D : va_G) (dA : Nat → ClassId) (h : Nat → Nat) (N : Nat)  (σ : MS) {r : Int32} {σ' : MS} (hM : M_isEnd N  σ = some (r, σ')) : KM l D dA yM_isEnd cM_isEnd 2 (some .boolean) rm_isEnd h σ [] (some (.int r)) σ' := x_enterM rfl (Nat.le_of_ble_eq_true rfl) (fun p e s m args below meth c A C hW ls hl => bM_isEnd_0 N C  σ hM s.heap [] hW ls hl)
def M_quoted_61 (N : Nat)  (σ : MS) : Option (Int32 × MS) :=
  some ((0 : Int32), σ)
set_option maxHeartbeats 4000000 in
set_option maxRecDepth 100000 in
theorem bM_quoted_61 (N : Nat)  {r : Int32} {σ' : MS} (C : CxM p s m args meth c cM_quoted 4 none D dA A)  (σ : MS) (hM : M_quoted_61 N   σ = some (r, σ')) (H : Heap) (locs : List Loc) (hW : WdM D dA h A s σ H locs) (ls : Array Slot) (hl : lv_has ls 4 []) : W p l e rm_quoted s m args below meth c H locs 0 0 (MQ below (QM D dA h A σ' none) args s 0 0 A) (F0 m 61 ls []) := by
  have hx := C.1.1
  have hb := C.1.2.1
  have hown := C.1.2.2.2.2.1
  have hT := C.1.2.2.2.2.2.1
  unfold M_quoted_61 at hM
  obtain ⟨rfl, rfl⟩ := sm_p hM
  exact x_retMv (pc := 61) C rfl hW dM_quoted_61
def M_quoted_21 (N : Nat)  : Nat → Int32 → Int32 → Int32 → MS → Option (Int32 × MS)
  | 0 => fun _ _ _ _ => none
  | n + 1 => fun x1 x2 x3 σ => (if (x2 - (1 : Int32)) ≤ x3 then bnd (sF σ 9 x2) (fun σ1 => (if x1 = 0 then M_quoted_61 N  σ1 else cl (M_put  (0 : Int32) σ1) (fun r2 σ3 => M_quoted_61 N  σ3))) else cl (M_shown  x3 (34 : Int32) σ) (fun r4 σ5 => cl (M_put  r4 σ5) (fun r6 σ7 => (M_quoted_21 N  n) x1 x2 (σ7.1 12) σ7)))
set_option maxHeartbeats 4000000 in
set_option maxRecDepth 100000 in
theorem bM_quoted_21 (N : Nat)  {r : Int32} {σ' : MS} (C : CxM p s m args meth c cM_quoted 4 none D dA A) : ∀ (n : Nat) (x1 : Int32) (x2 : Int32) (x3 : Int32) (σ : MS), M_quoted_21 N  n x1 x2 x3 σ = some (r, σ') → ∀ (H : Heap) (locs : List Loc), WdM D dA h A s σ H locs → ∀ (ls : Array Slot), lv_has ls 4 [(0, .ref (h 0)), (1, .int x1), (2, .int x2), (3, .int x3)] → W p l e rm_quoted s m args below meth c H locs 0 0 (MQ below (QM D dA h A σ' none) args s 0 0 A) (F0 m 21 ls []) := by
  have hx := C.1.1
  have hb := C.1.2.1
  have hown := C.1.2.2.2.2.1
  have hT := C.1.2.2.2.2.2.1
  intro n
  induction n with
  | zero => intro x1 x2 x3 σ hM; cases hM
  | succ n hrec21 =>
    intro x1 x2 x3 σ hM H locs hW ls hl
    rw [M_quoted_21] at hM
    refine lv_iload_n (pc := 21) hx hb dM_quoted_21 rfl (lv_at hl 3 rfl) ?_
    refine lv_iload_n (pc := 22) hx hb dM_quoted_22 rfl (lv_at hl 2 rfl) ?_
    refine lv_iconst (pc := 23) (v := 1) hx hb dM_quoted_23 (by decide) ?_
    refine lv_isub (pc := 24) hx hb dM_quoted_24 ?_
    refine lv_icmp_ge (pc := 25) (tgt := 47) hx hb dM_quoted_25 (by decide) (fun hc => ?_) (fun hc => ?_)
    · replace hM := it_t hc hM
      refine lv_aload_n (pc := 47) hx hb dM_quoted_47 rfl (lv_at hl 0 rfl) ?_
      refine lv_iload_n (pc := 48) hx hb dM_quoted_48 rfl (lv_at hl 2 rfl) ?_
      refine pM (pc := 49) (ty := .int) C hW 19 9 (by decide) q_1676 rfl rfl (by decide +kernel) rfl rfl (st_at dA h _ _) dM_quoted_49 (fun H locs hW => ?_)
      obtain ⟨σ1, eσ1, hM⟩ := bnd_some hM
      rw [← eσ1] at hW
      refine lv_iload_n (pc := 52) hx hb dM_quoted_52 rfl (lv_at hl 1 rfl) ?_
      refine lv_if_eq (pc := 53) (tgt := 61) hx hb dM_quoted_53 (by decide) (fun hc => ?_) (fun hc => ?_)
      · replace hM := it_t hc hM
        exact bM_quoted_61 N  C   _ hM _ _ hW _ (lv_sub hl [] rfl)
      · replace hM := it_f hc hM
        refine lv_aload_n (pc := 56) hx hb dM_quoted_56 rfl (lv_at hl 0 rfl) ?_
        refine lv_iconst (pc := 57) (v := 0) hx hb dM_quoted_57 (by decide) ?_
        obtain ⟨r2, σ3, hr2, hM⟩ := cl_some hM
        refine x_callMv (pc := 58) C hW (kM_put l D dA h  (0 : Int32) _ hr2) gM_put_553 ⟨rfl, by decide, by decide, by decide +kernel⟩ ⟨rfl, rfl⟩ ⟨by decide, by decide⟩ ⟨by decide, by decide⟩ (As := [.int (0 : Int32)]) (n := 1) rfl hl.1 rfl (Nat.le_of_ble_eq_true rfl) dM_quoted_58 (fun H locs hW => ?_)
        exact bM_quoted_61 N  C   _ hM _ _ hW _ (lv_sub hl [] rfl)
    · replace hM := it_f hc hM
      refine lv_aload_n (pc := 28) hx hb dM_quoted_28 rfl (lv_at hl 0 rfl) ?_
      refine lv_aload_n (pc := 29) hx hb dM_quoted_29 rfl (lv_at hl 0 rfl) ?_
      refine lv_iload_n (pc := 30) hx hb dM_quoted_30 rfl (lv_at hl 3 rfl) ?_
      refine lv_bipush (pc := 31) (v := 34) hx hb dM_quoted_31 (by decide) ?_
      obtain ⟨r4, σ5, hr4, hM⟩ := cl_some hM
      refine x_callMi (pc := 33) C hW (kM_shown l D dA h  x3 (34 : Int32) _ hr4) gM_shown_416 ⟨rfl, by decide, by decide, by decide +kernel⟩ ⟨rfl, rfl⟩ ⟨by decide, by decide⟩ ⟨by decide, by decide⟩ (As := [.int x3, .int (34 : Int32)]) (n := 2) rfl hl.1 rfl (Nat.le_of_ble_eq_true rfl) dM_quoted_33 (fun H locs hW => ?_)
      obtain ⟨r6, σ7, hr6, hM⟩ := cl_some hM
      refine x_callMv (pc := 36) C hW (kM_put l D dA h  r4 _ hr6) gM_put_553 ⟨rfl, by decide, by decide, by decide +kernel⟩ ⟨rfl, rfl⟩ ⟨by decide, by decide⟩ ⟨by decide, by decide⟩ (As := [.int r4]) (n := 1) rfl hl.1 rfl (Nat.le_of_ble_eq_true rfl) dM_quoted_36 (fun H locs hW => ?_)
      refine lv_aload_n (pc := 39) hx hb dM_quoted_39 rfl (lv_at hl 0 rfl) ?_
      refine gM (pc := 40) C hW 22 (by decide) q_1679 rfl rfl dM_quoted_40 ?_
      refine lv_istore_n (pc := 43) (lv' := [(3, .int (σ7.1 12)), (0, .ref (h 0)), (1, .int x1), (2, .int x2)]) hx hb dM_quoted_43 rfl hl (by decide) rfl (fun ls hl => ?_)
      refine lv_goto (pc := 44) (tgt := 21) hx hb dM_quoted_44 (by decide) ?_
      exact hrec21 _ _ _ _ hM _ _ hW _ (lv_sub hl [1, 2, 3, 0] rfl)
def M_quoted (N : Nat) (x1 : Int32) (σ : MS) : Option (Int32 × MS) :=
  cl (M_needs N (4 : Int32) σ) (fun r1 σ2 => (if r1 = 0 then some ((0 : Int32), σ2) else M_quoted_21 N  N x1 (σ2.1 12) ((σ2.1 11) + (1 : Int32)) σ2))
set_option maxHeartbeats 4000000 in
set_option maxRecDepth 100000 in
theorem bM_quoted_0 (N : Nat)  {r : Int32} {σ' : MS} (C : CxM p s m args meth c cM_quoted 4 none D dA A) (x1 : Int32) (σ : MS) (hM : M_quoted N  x1 σ = some (r, σ')) (H : Heap) (locs : List Loc) (hW : WdM D dA h A s σ H locs) (ls : Array Slot) (hl : lv_has ls 4 [(0, .ref (h 0)), (1, .int x1)]) : W p l e rm_quoted s m args below meth c H locs 0 0 (MQ below (QM D dA h A σ' none) args s 0 0 A) (F0 m 0 ls []) := by
  have hx := C.1.1
  have hb := C.1.2.1
  have hown := C.1.2.2.2.2.1
  have hT := C.1.2.2.2.2.2.1
  unfold M_quoted at hM
  refine lv_aload_n (pc := 0) hx hb dM_quoted_0 rfl (lv_at hl 0 rfl) ?_
  refine lv_iconst (pc := 1) (v := 4) hx hb dM_quoted_1 (by decide) ?_
  obtain ⟨r1, σ2, hr1, hM⟩ := cl_some hM
  refine x_callMi (pc := 2) C hW (kM_needs l D dA h N (4 : Int32) _ hr1) gM_needs_515 ⟨rfl, by decide, by decide, by decide +kernel⟩ ⟨rfl, rfl⟩ ⟨by decide, by decide⟩ ⟨by decide, by decide⟩ (As := [.int (4 : Int32)]) (n := 1) rfl hl.1 rfl (Nat.le_of_ble_eq_true rfl) dM_quoted_2 (fun H locs hW => ?_)
  refine lv_if_ne (pc := 5) (tgt := 9) hx hb dM_quoted_5 (by decide) (fun hc => ?_) (fun hc => ?_)
  · replace hM := it_f hc hM
    refine lv_aload_n (pc := 9) hx hb dM_quoted_9 rfl (lv_at hl 0 rfl) ?_
    refine gM (pc := 10) C hW 22 (by decide) q_1679 rfl rfl dM_quoted_10 ?_
    refine lv_istore_n (pc := 13) (lv' := [(2, .int (σ2.1 12)), (0, .ref (h 0)), (1, .int x1)]) hx hb dM_quoted_13 rfl hl (by decide) rfl (fun ls hl => ?_)
    refine lv_aload_n (pc := 14) hx hb dM_quoted_14 rfl (lv_at hl 1 rfl) ?_
    refine gM (pc := 15) C hW 21 (by decide) q_1678 rfl rfl dM_quoted_15 ?_
    refine lv_iconst (pc := 18) (v := 1) hx hb dM_quoted_18 (by decide) ?_
    refine lv_iadd (pc := 19) hx hb dM_quoted_19 ?_
    refine lv_istore_n (pc := 20) (lv' := [(3, .int ((σ2.1 11) + (1 : Int32))), (2, .int (σ2.1 12)), (0, .ref (h 0)), (1, .int x1)]) hx hb dM_quoted_20 rfl hl (by decide) rfl (fun ls hl => ?_)
    exact bM_quoted_21 N  C  N _ _ _ _ hM _ _ hW _ (lv_sub hl [2, 3, 1, 0] rfl)
  · replace hM := it_t hc hM
    obtain ⟨rfl, rfl⟩ := sm_p hM
    exact x_retMv (pc := 8) C rfl hW dM_quoted_8
theorem kM_quoted (l : Launch) (D : va_G) (dA : Nat → ClassId) (h : Nat → Nat) (N : Nat) (x1 : Int32) (σ : MS) {r : Int32} {σ' : MS} (hM : M_quoted N x1 σ = some (r, σ')) : KM l D dA yM_quoted cM_quoted 4 none rm_quoted h σ [.int x1] none σ' := x_enterM rfl (Nat.le_of_ble_eq_true rfl) (fun p e s m args below meth c A C hW ls hl => bM_quoted_0 N C x1 σ hM s.heap [] hW ls hl)
end
