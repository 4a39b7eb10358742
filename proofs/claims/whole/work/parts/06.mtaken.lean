theorem q_1670 : (Jvm.Cond.fieldLink "LineAssemblerModel" (449 : Nat) "LineAssemblerModel" "labels" "I") ∈ lw_gd := u_6 (List.mem_of_getElem? (i := 230) (by decide +kernel)) (by decide +kernel)
theorem q_1671 : (Jvm.Cond.fieldLink "LineAssemblerModel" (339 : Nat) "LineAssemblerModel" "label" "[I") ∈ lw_gd := u_6 (List.mem_of_getElem? (i := 231) (by decide +kernel)) (by decide +kernel)
theorem q_1684 : (Jvm.Cond.fieldLink "LineAssemblerModel" (531 : Nat) "LineAssemblerModel" "mode" "I") ∈ lw_gd := u_7 (List.mem_of_getElem? (i := 4) (by decide +kernel)) (by decide +kernel)
theorem q_1685 : (Jvm.Cond.fieldLink "LineAssemblerModel" (463 : Nat) "LineAssemblerModel" "current" "I") ∈ lw_gd := u_7 (List.mem_of_getElem? (i := 5) (by decide +kernel)) (by decide +kernel)
theorem q_1687 : (Jvm.Cond.fieldLink "LineAssemblerModel" (544 : Nat) "LineAssemblerModel" "count" "I") ∈ lw_gd := u_7 (List.mem_of_getElem? (i := 7) (by decide +kernel)) (by decide +kernel)
theorem q_1688 : (Jvm.Cond.fieldLink "LineAssemblerModel" (547 : Nat) "LineAssemblerModel" "wanted" "I") ∈ lw_gd := u_7 (List.mem_of_getElem? (i := 8) (by decide +kernel)) (by decide +kernel)
theorem q_1689 : (Jvm.Cond.fieldLink "LineAssemblerModel" (550 : Nat) "LineAssemblerModel" "got" "I") ∈ lw_gd := u_7 (List.mem_of_getElem? (i := 9) (by decide +kernel)) (by decide +kernel)
theorem q_1692 : (Jvm.Cond.fieldLink "LineAssemblerModel" (479 : Nat) "LineAssemblerModel" "divided" "Z") ∈ lw_gd := u_7 (List.mem_of_getElem? (i := 12) (by decide +kernel)) (by decide +kernel)
theorem q_1694 : (Jvm.Cond.fieldLink "LineAssemblerModel" (345 : Nat) "LineAssemblerModel" "pile" "[I") ∈ lw_gd := u_7 (List.mem_of_getElem? (i := 14) (by decide +kernel)) (by decide +kernel)
theorem q_1695 : (Jvm.Cond.fieldLink "LineAssemblerModel" (473 : Nat) "LineAssemblerModel" "signs" "I") ∈ lw_gd := u_7 (List.mem_of_getElem? (i := 15) (by decide +kernel)) (by decide +kernel)
theorem q_1696 : (Jvm.Cond.fieldLink "LineAssemblerModel" (476 : Nat) "LineAssemblerModel" "values" "I") ∈ lw_gd := u_7 (List.mem_of_getElem? (i := 16) (by decide +kernel)) (by decide +kernel)
theorem q_1860 : (Jvm.Cond.methodLink "LineAssemblerModel" (486 : Nat) ({ cls := "LineAssemblerModel", name := "register", desc := "(II)I" } : Jvm.MethodName)) ∈ lw_gd := u_7 (List.mem_of_getElem? (i := 180) (by decide +kernel)) (by decide +kernel)
theorem q_1862 : (Jvm.Cond.instanceMethod ({ cls := "LineAssemblerModel", name := "register", desc := "(II)I" } : Jvm.MethodName)) ∈ lw_gd := u_7 (List.mem_of_getElem? (i := 182) (by decide +kernel)) (by decide +kernel)
theorem q_1863 : (Jvm.Cond.code ({ cls := "LineAssemblerModel", name := "register", desc := "(II)I" } : Jvm.MethodName) prog_14_method_21_code (7 : Nat) (Option.some Jvm.ClassFile.FieldType.int)) ∈ lw_gd := u_7 (List.mem_of_getElem? (i := 183) (by decide +kernel)) (by decide +kernel)
theorem q_1878 : (Jvm.Cond.methodLink "LineAssemblerModel" (452 : Nat) ({ cls := "LineAssemblerModel", name := "isAlike", desc := "(III)Z" } : Jvm.MethodName)) ∈ lw_gd := u_7 (List.mem_of_getElem? (i := 198) (by decide +kernel)) (by decide +kernel)
theorem q_1880 : (Jvm.Cond.instanceMethod ({ cls := "LineAssemblerModel", name := "isAlike", desc := "(III)Z" } : Jvm.MethodName)) ∈ lw_gd := u_7 (List.mem_of_getElem? (i := 200) (by decide +kernel)) (by decide +kernel)
theorem q_1881 : (Jvm.Cond.code ({ cls := "LineAssemblerModel", name := "isAlike", desc := "(III)Z" } : Jvm.MethodName) prog_14_method_22_code (5 : Nat) (Option.some Jvm.ClassFile.FieldType.boolean)) ∈ lw_gd := u_7 (List.mem_of_getElem? (i := 201) (by decide +kernel)) (by decide +kernel)
theorem q_1909 : (Jvm.Cond.methodLink "LineAssemblerModel" (515 : Nat) ({ cls := "LineAssemblerModel", name := "needs", desc := "(I)Z" } : Jvm.MethodName)) ∈ lw_gd := u_7 (List.mem_of_getElem? (i := 229) (by decide +kernel)) (by decide +kernel)
theorem q_1911 : (Jvm.Cond.instanceMethod ({ cls := "LineAssemblerModel", name := "needs", desc := "(I)Z" } : Jvm.MethodName)) ∈ lw_gd := u_7 (List.mem_of_getElem? (i := 231) (by decide +kernel)) (by decide +kernel)
theorem q_1912 : (Jvm.Cond.code ({ cls := "LineAssemblerModel", name := "needs", desc := "(I)Z" } : Jvm.MethodName) prog_14_method_19_code (2 : Nat) (Option.some Jvm.ClassFile.FieldType.boolean)) ∈ lw_gd := u_7 (List.mem_of_getElem? (i := 232) (by decide +kernel)) (by decide +kernel)
theorem q_1968 : (Jvm.Cond.methodLink "LineAssemblerModel" (482 : Nat) ({ cls := "LineAssemblerModel", name := "worked", desc := "(III)I" } : Jvm.MethodName)) ∈ lw_gd := u_8 (List.mem_of_getElem? (i := 48) (by decide +kernel)) (by decide +kernel)
theorem q_1970 : (Jvm.Cond.instanceMethod ({ cls := "LineAssemblerModel", name := "worked", desc := "(III)I" } : Jvm.MethodName)) ∈ lw_gd := u_8 (List.mem_of_getElem? (i := 50) (by decide +kernel)) (by decide +kernel)
theorem q_1971 : (Jvm.Cond.code ({ cls := "LineAssemblerModel", name := "worked", desc := "(III)I" } : Jvm.MethodName) prog_14_method_31_code (4 : Nat) (Option.some Jvm.ClassFile.FieldType.int)) ∈ lw_gd := u_8 (List.mem_of_getElem? (i := 51) (by decide +kernel)) (by decide +kernel)
theorem q_1977 : (Jvm.Cond.methodLink "LineAssemblerModel" (553 : Nat) ({ cls := "LineAssemblerModel", name := "put", desc := "(I)V" } : Jvm.MethodName)) ∈ lw_gd := u_8 (List.mem_of_getElem? (i := 57) (by decide +kernel)) (by decide +kernel)
theorem q_1979 : (Jvm.Cond.instanceMethod ({ cls := "LineAssemblerModel", name := "put", desc := "(I)V" } : Jvm.MethodName)) ∈ lw_gd := u_8 (List.mem_of_getElem? (i := 59) (by decide +kernel)) (by decide +kernel)
theorem q_1980 : (Jvm.Cond.code ({ cls := "LineAssemblerModel", name := "put", desc := "(I)V" } : Jvm.MethodName) prog_14_method_46_code (2 : Nat) (Option.none : Option Jvm.ClassFile.FieldType)) ∈ lw_gd := u_8 (List.mem_of_getElem? (i := 60) (by decide +kernel)) (by decide +kernel)
theorem q_2017 : (Jvm.Cond.methodLink "LineAssemblerModel" (559 : Nat) ({ cls := "LineAssemblerModel", name := "bits", desc := "(IIII)I" } : Jvm.MethodName)) ∈ lw_gd := u_8 (List.mem_of_getElem? (i := 97) (by decide +kernel)) (by decide +kernel)
theorem q_2018 : (Jvm.Cond.static ({ cls := "LineAssemblerModel", name := "bits", desc := "(IIII)I" } : Jvm.MethodName)) ∈ lw_gd := u_8 (List.mem_of_getElem? (i := 98) (by decide +kernel)) (by decide +kernel)
theorem q_2019 : (Jvm.Cond.code ({ cls := "LineAssemblerModel", name := "bits", desc := "(IIII)I" } : Jvm.MethodName) prog_14_method_49_code (4 : Nat) (Option.some Jvm.ClassFile.FieldType.int)) ∈ lw_gd := u_8 (List.mem_of_getElem? (i := 99) (by decide +kernel)) (by decide +kernel)
theorem q_2023 : (Jvm.Cond.methodLink "LineAssemblerModel" (541 : Nat) ({ cls := "LineAssemblerModel", name := "taken", desc := "()I" } : Jvm.MethodName)) ∈ lw_gd := u_8 (List.mem_of_getElem? (i := 103) (by decide +kernel)) (by decide +kernel)
theorem q_2025 : (Jvm.Cond.instanceMethod ({ cls := "LineAssemblerModel", name := "taken", desc := "()I" } : Jvm.MethodName)) ∈ lw_gd := u_8 (List.mem_of_getElem? (i := 105) (by decide +kernel)) (by decide +kernel)
theorem q_2026 : (Jvm.Cond.code ({ cls := "LineAssemblerModel", name := "taken", desc := "()I" } : Jvm.MethodName) prog_14_method_40_code (2 : Nat) (Option.some Jvm.ClassFile.FieldType.int)) ∈ lw_gd := u_8 (List.mem_of_getElem? (i := 106) (by decide +kernel)) (by decide +kernel)
theorem qs_63 : Cond.selects "LineAssemblerModel" (⟨"LineAssemblerModel", "register", "(II)I"⟩ : MethodName) ⟨"LineAssemblerModel", "register", "(II)I"⟩ ∈ lw_gd := lw_gds (List.mem_of_getElem? (i := 63) (by decide +kernel)) (by decide +kernel)
theorem qs_66 : Cond.selects "LineAssemblerModel" (⟨"LineAssemblerModel", "isAlike", "(III)Z"⟩ : MethodName) ⟨"LineAssemblerModel", "isAlike", "(III)Z"⟩ ∈ lw_gd := lw_gds (List.mem_of_getElem? (i := 66) (by decide +kernel)) (by decide +kernel)
theorem qs_73 : Cond.selects "LineAssemblerModel" (⟨"LineAssemblerModel", "needs", "(I)Z"⟩ : MethodName) ⟨"LineAssemblerModel", "needs", "(I)Z"⟩ ∈ lw_gd := lw_gds (List.mem_of_getElem? (i := 73) (by decide +kernel)) (by decide +kernel)
theorem qs_86 : Cond.selects "LineAssemblerModel" (⟨"LineAssemblerModel", "worked", "(III)I"⟩ : MethodName) ⟨"LineAssemblerModel", "worked", "(III)I"⟩ ∈ lw_gd := lw_gds (List.mem_of_getElem? (i := 86) (by decide +kernel)) (by decide +kernel)
theorem qs_88 : Cond.selects "LineAssemblerModel" (⟨"LineAssemblerModel", "put", "(I)V"⟩ : MethodName) ⟨"LineAssemblerModel", "put", "(I)V"⟩ ∈ lw_gd := lw_gds (List.mem_of_getElem? (i := 88) (by decide +kernel)) (by decide +kernel)
theorem qs_97 : Cond.selects "LineAssemblerModel" (⟨"LineAssemblerModel", "taken", "()I"⟩ : MethodName) ⟨"LineAssemblerModel", "taken", "()I"⟩ ∈ lw_gd := lw_gds (List.mem_of_getElem? (i := 97) (by decide +kernel)) (by decide +kernel)
abbrev cM_taken : ByteArray := prog_14_method_40_code
def yM_taken : MethodName := ⟨RM, "taken", "()I"⟩
abbrev rm_taken : Room := { frames := 5, cells := 0, slots := 0, locals := 114 }
theorem dM_taken_0 : decode cM_taken 0 = .ok (.aload_n 0, 1) := by decide +kernel
theorem dM_taken_1 : decode cM_taken 1 = .ok (.invokevirtual 426, 3) := by decide +kernel
theorem dM_taken_4 : decode cM_taken 4 = .ok (.aload_n 0, 1) := by decide +kernel
theorem dM_taken_5 : decode cM_taken 5 = .ok (.getfield 375, 3) := by decide +kernel
theorem dM_taken_8 : decode cM_taken 8 = .ok (.iconst 1, 1) := by decide +kernel
theorem dM_taken_9 : decode cM_taken 9 = .ok (.if_icmp .ne (18), 3) := by decide +kernel
theorem dM_taken_12 : decode cM_taken 12 = .ok (.aload_n 0, 1) := by decide +kernel
theorem dM_taken_13 : decode cM_taken 13 = .ok (.aload_n 0, 1) := by decide +kernel
theorem dM_taken_14 : decode cM_taken 14 = .ok (.getfield 378, 3) := by decide +kernel
theorem dM_taken_17 : decode cM_taken 17 = .ok (.aload_n 0, 1) := by decide +kernel
theorem dM_taken_18 : decode cM_taken 18 = .ok (.getfield 381, 3) := by decide +kernel
theorem dM_taken_21 : decode cM_taken 21 = .ok (.invokevirtual 486, 3) := by decide +kernel
theorem dM_taken_24 : decode cM_taken 24 = .ok (.goto (4), 3) := by decide +kernel
theorem dM_taken_27 : decode cM_taken 27 = .ok (.iconst (-1), 1) := by decide +kernel
theorem dM_taken_28 : decode cM_taken 28 = .ok (.istore_n 1, 1) := by decide +kernel
theorem dM_taken_29 : decode cM_taken 29 = .ok (.aload_n 0, 1) := by decide +kernel
theorem dM_taken_30 : decode cM_taken 30 = .ok (.getfield 375, 3) := by decide +kernel
theorem dM_taken_33 : decode cM_taken 33 = .ok (.ifCond .eq (11), 3) := by decide +kernel
theorem dM_taken_36 : decode cM_taken 36 = .ok (.aload_n 0, 1) := by decide +kernel
theorem dM_taken_37 : decode cM_taken 37 = .ok (.getfield 375, 3) := by decide +kernel
theorem dM_taken_40 : decode cM_taken 40 = .ok (.iconst 5, 1) := by decide +kernel
theorem dM_taken_41 : decode cM_taken 41 = .ok (.if_icmp .ne (11), 3) := by decide +kernel
theorem dM_taken_44 : decode cM_taken 44 = .ok (.aload_n 0, 1) := by decide +kernel
theorem dM_taken_45 : decode cM_taken 45 = .ok (.iconst 1, 1) := by decide +kernel
theorem dM_taken_46 : decode cM_taken 46 = .ok (.invokevirtual 429, 3) := by decide +kernel
theorem dM_taken_49 : decode cM_taken 49 = .ok (.goto (12), 3) := by decide +kernel
theorem dM_taken_52 : decode cM_taken 52 = .ok (.iload_n 1, 1) := by decide +kernel
theorem dM_taken_53 : decode cM_taken 53 = .ok (.ifCond .ge (8), 3) := by decide +kernel
theorem dM_taken_56 : decode cM_taken 56 = .ok (.aload_n 0, 1) := by decide +kernel
theorem dM_taken_57 : decode cM_taken 57 = .ok (.iconst 3, 1) := by decide +kernel
theorem dM_taken_58 : decode cM_taken 58 = .ok (.invokevirtual 429, 3) := by decide +kernel
theorem dM_taken_61 : decode cM_taken 61 = .ok (.iload_n 1, 1) := by decide +kernel
theorem dM_taken_62 : decode cM_taken 62 = .ok (.ifCond .ge (7), 3) := by decide +kernel
theorem dM_taken_65 : decode cM_taken 65 = .ok (.iconst 0, 1) := by decide +kernel
theorem dM_taken_66 : decode cM_taken 66 = .ok (.goto (4), 3) := by decide +kernel
theorem dM_taken_69 : decode cM_taken 69 = .ok (.iload_n 1, 1) := by decide +kernel
theorem dM_taken_70 : decode cM_taken 70 = .ok (.ireturn, 1) := by decide +kernel
abbrev cM_behind : ByteArray := prog_14_method_42_code
def yM_behind : MethodName := ⟨RM, "behind", "()I"⟩
abbrev rm_behind : Room := { frames := 6, cells := 0, slots := 0, locals := 135 }
theorem dM_behind_0 : decode cM_behind 0 = .ok (.aload_n 0, 1) := by decide +kernel
theorem dM_behind_1 : decode cM_behind 1 = .ok (.bipush 44, 2) := by decide +kernel
theorem dM_behind_3 : decode cM_behind 3 = .ok (.invokevirtual 515, 3) := by decide +kernel
theorem dM_behind_6 : decode cM_behind 6 = .ok (.ifCond .eq (10), 3) := by decide +kernel
theorem dM_behind_9 : decode cM_behind 9 = .ok (.aload_n 0, 1) := by decide +kernel
theorem dM_behind_10 : decode cM_behind 10 = .ok (.invokevirtual 541, 3) := by decide +kernel
theorem dM_behind_13 : decode cM_behind 13 = .ok (.goto (4), 3) := by decide +kernel
theorem dM_behind_16 : decode cM_behind 16 = .ok (.iconst 0, 1) := by decide +kernel
theorem dM_behind_17 : decode cM_behind 17 = .ok (.ireturn, 1) := by decide +kernel
abbrev cM_bits : ByteArray := prog_14_method_49_code
def yM_bits : MethodName := ⟨RM, "bits", "(IIII)I"⟩
abbrev rm_bits : Room := { frames := 0, cells := 0, slots := 0, locals := 0 }
theorem dM_bits_0 : decode cM_bits 0 = .ok (.iload_n 0, 1) := by decide +kernel
theorem dM_bits_1 : decode cM_bits 1 = .ok (.iload_n 2, 1) := by decide +kernel
theorem dM_bits_2 : decode cM_bits 2 = .ok (.iushr, 1) := by decide +kernel
theorem dM_bits_3 : decode cM_bits 3 = .ok (.iconst 1, 1) := by decide +kernel
theorem dM_bits_4 : decode cM_bits 4 = .ok (.iload_n 1, 1) := by decide +kernel
theorem dM_bits_5 : decode cM_bits 5 = .ok (.iload_n 2, 1) := by decide +kernel
theorem dM_bits_6 : decode cM_bits 6 = .ok (.isub, 1) := by decide +kernel
theorem dM_bits_7 : decode cM_bits 7 = .ok (.iconst 1, 1) := by decide +kernel
theorem dM_bits_8 : decode cM_bits 8 = .ok (.iadd, 1) := by decide +kernel
theorem dM_bits_9 : decode cM_bits 9 = .ok (.ishl, 1) := by decide +kernel
theorem dM_bits_10 : decode cM_bits 10 = .ok (.iconst 1, 1) := by decide +kernel
theorem dM_bits_11 : decode cM_bits 11 = .ok (.isub, 1) := by decide +kernel
theorem dM_bits_12 : decode cM_bits 12 = .ok (.iand, 1) := by decide +kernel
theorem dM_bits_13 : decode cM_bits 13 = .ok (.iload_n 3, 1) := by decide +kernel
theorem dM_bits_14 : decode cM_bits 14 = .ok (.ishl, 1) := by decide +kernel
theorem dM_bits_15 : decode cM_bits 15 = .ok (.ireturn, 1) := by decide +kernel
abbrev cM_branchBits : ByteArray := prog_14_method_50_code
def yM_branchBits : MethodName := ⟨RM, "branchBits", "(I)I"⟩
abbrev rm_branchBits : Room := { frames := 1, cells := 0, slots := 0, locals := 23 }
theorem dM_branchBits_0 : decode cM_branchBits 0 = .ok (.iload_n 0, 1) := by decide +kernel
theorem dM_branchBits_1 : decode cM_branchBits 1 = .ok (.bipush 12, 2) := by decide +kernel
theorem dM_branchBits_3 : decode cM_branchBits 3 = .ok (.bipush 12, 2) := by decide +kernel
theorem dM_branchBits_5 : decode cM_branchBits 5 = .ok (.bipush 31, 2) := by decide +kernel
theorem dM_branchBits_7 : decode cM_branchBits 7 = .ok (.invokestatic 559, 3) := by decide +kernel
theorem dM_branchBits_10 : decode cM_branchBits 10 = .ok (.iload_n 0, 1) := by decide +kernel
theorem dM_branchBits_11 : decode cM_branchBits 11 = .ok (.bipush 10, 2) := by decide +kernel
theorem dM_branchBits_13 : decode cM_branchBits 13 = .ok (.iconst 5, 1) := by decide +kernel
theorem dM_branchBits_14 : decode cM_branchBits 14 = .ok (.bipush 25, 2) := by decide +kernel
theorem dM_branchBits_16 : decode cM_branchBits 16 = .ok (.invokestatic 559, 3) := by decide +kernel
theorem dM_branchBits_19 : decode cM_branchBits 19 = .ok (.ior, 1) := by decide +kernel
theorem dM_branchBits_20 : decode cM_branchBits 20 = .ok (.iload_n 0, 1) := by decide +kernel
theorem dM_branchBits_21 : decode cM_branchBits 21 = .ok (.iconst 4, 1) := by decide +kernel
theorem dM_branchBits_22 : decode cM_branchBits 22 = .ok (.iconst 1, 1) := by decide +kernel
theorem dM_branchBits_23 : decode cM_branchBits 23 = .ok (.bipush 8, 2) := by decide +kernel
theorem dM_branchBits_25 : decode cM_branchBits 25 = .ok (.invokestatic 559, 3) := by decide +kernel
theorem dM_branchBits_28 : decode cM_branchBits 28 = .ok (.ior, 1) := by decide +kernel
theorem dM_branchBits_29 : decode cM_branchBits 29 = .ok (.iload_n 0, 1) := by decide +kernel
theorem dM_branchBits_30 : decode cM_branchBits 30 = .ok (.bipush 11, 2) := by decide +kernel
theorem dM_branchBits_32 : decode cM_branchBits 32 = .ok (.bipush 11, 2) := by decide +kernel
theorem dM_branchBits_34 : decode cM_branchBits 34 = .ok (.bipush 7, 2) := by decide +kernel
theorem dM_branchBits_36 : decode cM_branchBits 36 = .ok (.invokestatic 559, 3) := by decide +kernel
theorem dM_branchBits_39 : decode cM_branchBits 39 = .ok (.ior, 1) := by decide +kernel
theorem dM_branchBits_40 : decode cM_branchBits 40 = .ok (.ireturn, 1) := by decide +kernel
abbrev cM_put : ByteArray := prog_14_method_46_code
def yM_put : MethodName := ⟨RM, "put", "(I)V"⟩
abbrev rm_put : Room := { frames := 0, cells := 0, slots := 0, locals := 0 }
theorem dM_put_0 : decode cM_put 0 = .ok (.aload_n 0, 1) := by decide +kernel
theorem dM_put_1 : decode cM_put 1 = .ok (.getfield 531, 3) := by decide +kernel
theorem dM_put_4 : decode cM_put 4 = .ok (.iconst 3, 1) := by decide +kernel
theorem dM_put_5 : decode cM_put 5 = .ok (.if_icmp .ne (23), 3) := by decide +kernel
theorem dM_put_8 : decode cM_put 8 = .ok (.aload_n 0, 1) := by decide +kernel
theorem dM_put_9 : decode cM_put 9 = .ok (.getfield 544, 3) := by decide +kernel
theorem dM_put_12 : decode cM_put 12 = .ok (.aload_n 0, 1) := by decide +kernel
theorem dM_put_13 : decode cM_put 13 = .ok (.getfield 547, 3) := by decide +kernel
theorem dM_put_16 : decode cM_put 16 = .ok (.if_icmp .ne (12), 3) := by decide +kernel
theorem dM_put_19 : decode cM_put 19 = .ok (.aload_n 0, 1) := by decide +kernel
theorem dM_put_20 : decode cM_put 20 = .ok (.iload_n 1, 1) := by decide +kernel
theorem dM_put_21 : decode cM_put 21 = .ok (.sipush 255, 3) := by decide +kernel
theorem dM_put_24 : decode cM_put 24 = .ok (.iand, 1) := by decide +kernel
theorem dM_put_25 : decode cM_put 25 = .ok (.putfield 550, 3) := by decide +kernel
theorem dM_put_28 : decode cM_put 28 = .ok (.aload_n 0, 1) := by decide +kernel
theorem dM_put_29 : decode cM_put 29 = .ok (.dup, 1) := by decide +kernel
theorem dM_put_30 : decode cM_put 30 = .ok (.getfield 544, 3) := by decide +kernel
theorem dM_put_33 : decode cM_put 33 = .ok (.iconst 1, 1) := by decide +kernel
theorem dM_put_34 : decode cM_put 34 = .ok (.iadd, 1) := by decide +kernel
theorem dM_put_35 : decode cM_put 35 = .ok (.putfield 544, 3) := by decide +kernel
theorem dM_put_38 : decode cM_put 38 = .ok (.return_, 1) := by decide +kernel
abbrev cM_half : ByteArray := prog_14_method_47_code
def yM_half : MethodName := ⟨RM, "half", "(I)V"⟩
abbrev rm_half : Room := { frames := 1, cells := 0, slots := 0, locals := 21 }
theorem dM_half_0 : decode cM_half 0 = .ok (.aload_n 0, 1) := by decide +kernel
theorem dM_half_1 : decode cM_half 1 = .ok (.iload_n 1, 1) := by decide +kernel
theorem dM_half_2 : decode cM_half 2 = .ok (.invokevirtual 553, 3) := by decide +kernel
theorem dM_half_5 : decode cM_half 5 = .ok (.aload_n 0, 1) := by decide +kernel
theorem dM_half_6 : decode cM_half 6 = .ok (.iload_n 1, 1) := by decide +kernel
theorem dM_half_7 : decode cM_half 7 = .ok (.bipush 8, 2) := by decide +kernel
theorem dM_half_9 : decode cM_half 9 = .ok (.ishr, 1) := by decide +kernel
theorem dM_half_10 : decode cM_half 10 = .ok (.invokevirtual 553, 3) := by decide +kernel
theorem dM_half_13 : decode cM_half 13 = .ok (.return_, 1) := by decide +kernel
abbrev cM_jumpBits : ByteArray := prog_14_method_51_code
def yM_jumpBits : MethodName := ⟨RM, "jumpBits", "(I)I"⟩
abbrev rm_jumpBits : Room := { frames := 1, cells := 0, slots := 0, locals := 23 }
theorem dM_jumpBits_0 : decode cM_jumpBits 0 = .ok (.iload_n 0, 1) := by decide +kernel
theorem dM_jumpBits_1 : decode cM_jumpBits 1 = .ok (.bipush 20, 2) := by decide +kernel
theorem dM_jumpBits_3 : decode cM_jumpBits 3 = .ok (.bipush 20, 2) := by decide +kernel
theorem dM_jumpBits_5 : decode cM_jumpBits 5 = .ok (.bipush 31, 2) := by decide +kernel
theorem dM_jumpBits_7 : decode cM_jumpBits 7 = .ok (.invokestatic 559, 3) := by decide +kernel
theorem dM_jumpBits_10 : decode cM_jumpBits 10 = .ok (.iload_n 0, 1) := by decide +kernel
theorem dM_jumpBits_11 : decode cM_jumpBits 11 = .ok (.bipush 10, 2) := by decide +kernel
theorem dM_jumpBits_13 : decode cM_jumpBits 13 = .ok (.iconst 1, 1) := by decide +kernel
theorem dM_jumpBits_14 : decode cM_jumpBits 14 = .ok (.bipush 21, 2) := by decide +kernel
theorem dM_jumpBits_16 : decode cM_jumpBits 16 = .ok (.invokestatic 559, 3) := by decide +kernel
theorem dM_jumpBits_19 : decode cM_jumpBits 19 = .ok (.ior, 1) := by decide +kernel
theorem dM_jumpBits_20 : decode cM_jumpBits 20 = .ok (.iload_n 0, 1) := by decide +kernel
theorem dM_jumpBits_21 : decode cM_jumpBits 21 = .ok (.bipush 11, 2) := by decide +kernel
theorem dM_jumpBits_23 : decode cM_jumpBits 23 = .ok (.bipush 11, 2) := by decide +kernel
theorem dM_jumpBits_25 : decode cM_jumpBits 25 = .ok (.bipush 20, 2) := by decide +kernel
theorem dM_jumpBits_27 : decode cM_jumpBits 27 = .ok (.invokestatic 559, 3) := by decide +kernel
theorem dM_jumpBits_30 : decode cM_jumpBits 30 = .ok (.ior, 1) := by decide +kernel
theorem dM_jumpBits_31 : decode cM_jumpBits 31 = .ok (.iload_n 0, 1) := by decide +kernel
theorem dM_jumpBits_32 : decode cM_jumpBits 32 = .ok (.bipush 19, 2) := by decide +kernel
theorem dM_jumpBits_34 : decode cM_jumpBits 34 = .ok (.bipush 12, 2) := by decide +kernel
theorem dM_jumpBits_36 : decode cM_jumpBits 36 = .ok (.bipush 12, 2) := by decide +kernel
theorem dM_jumpBits_38 : decode cM_jumpBits 38 = .ok (.invokestatic 559, 3) := by decide +kernel
theorem dM_jumpBits_41 : decode cM_jumpBits 41 = .ok (.ior, 1) := by decide +kernel
theorem dM_jumpBits_42 : decode cM_jumpBits 42 = .ok (.ireturn, 1) := by decide +kernel
abbrev cM_level : ByteArray := prog_14_method_55_code
def yM_level : MethodName := ⟨RM, "level", "()I"⟩
abbrev rm_level : Room := { frames := 0, cells := 0, slots := 0, locals := 0 }
theorem dM_level_0 : decode cM_level 0 = .ok (.aload_n 0, 1) := by decide +kernel
theorem dM_level_1 : decode cM_level 1 = .ok (.getfield 330, 3) := by decide +kernel
theorem dM_level_4 : decode cM_level 4 = .ok (.aload_n 0, 1) := by decide +kernel
theorem dM_level_5 : decode cM_level 5 = .ok (.getfield 463, 3) := by decide +kernel
theorem dM_level_8 : decode cM_level 8 = .ok (.iaload, 1) := by decide +kernel
theorem dM_level_9 : decode cM_level 9 = .ok (.bipush 13, 2) := by decide +kernel
theorem dM_level_11 : decode cM_level 11 = .ok (.ishr, 1) := by decide +kernel
theorem dM_level_12 : decode cM_level 12 = .ok (.iconst 3, 1) := by decide +kernel
theorem dM_level_13 : decode cM_level 13 = .ok (.iand, 1) := by decide +kernel
theorem dM_level_14 : decode cM_level 14 = .ok (.ireturn, 1) := by decide +kernel
abbrev cM_shortBranch : ByteArray := prog_14_method_53_code
def yM_shortBranch : MethodName := ⟨RM, "shortBranch", "(I)I"⟩
abbrev rm_shortBranch : Room := { frames := 1, cells := 0, slots := 0, locals := 23 }
theorem dM_shortBranch_0 : decode cM_shortBranch 0 = .ok (.iload_n 0, 1) := by decide +kernel
theorem dM_shortBranch_1 : decode cM_shortBranch 1 = .ok (.bipush 8, 2) := by decide +kernel
theorem dM_shortBranch_3 : decode cM_shortBranch 3 = .ok (.bipush 8, 2) := by decide +kernel
theorem dM_shortBranch_5 : decode cM_shortBranch 5 = .ok (.bipush 12, 2) := by decide +kernel
theorem dM_shortBranch_7 : decode cM_shortBranch 7 = .ok (.invokestatic 559, 3) := by decide +kernel
theorem dM_shortBranch_10 : decode cM_shortBranch 10 = .ok (.iload_n 0, 1) := by decide +kernel
theorem dM_shortBranch_11 : decode cM_shortBranch 11 = .ok (.iconst 4, 1) := by decide +kernel
theorem dM_shortBranch_12 : decode cM_shortBranch 12 = .ok (.iconst 3, 1) := by decide +kernel
theorem dM_shortBranch_13 : decode cM_shortBranch 13 = .ok (.bipush 10, 2) := by decide +kernel
theorem dM_shortBranch_15 : decode cM_shortBranch 15 = .ok (.invokestatic 559, 3) := by decide +kernel
theorem dM_shortBranch_18 : decode cM_shortBranch 18 = .ok (.ior, 1) := by decide +kernel
theorem dM_shortBranch_19 : decode cM_shortBranch 19 = .ok (.iload_n 0, 1) := by decide +kernel
theorem dM_shortBranch_20 : decode cM_shortBranch 20 = .ok (.bipush 7, 2) := by decide +kernel
theorem dM_shortBranch_22 : decode cM_shortBranch 22 = .ok (.bipush 6, 2) := by decide +kernel
theorem dM_shortBranch_24 : decode cM_shortBranch 24 = .ok (.iconst 5, 1) := by decide +kernel
theorem dM_shortBranch_25 : decode cM_shortBranch 25 = .ok (.invokestatic 559, 3) := by decide +kernel
theorem dM_shortBranch_28 : decode cM_shortBranch 28 = .ok (.ior, 1) := by decide +kernel
theorem dM_shortBranch_29 : decode cM_shortBranch 29 = .ok (.iload_n 0, 1) := by decide +kernel
theorem dM_shortBranch_30 : decode cM_shortBranch 30 = .ok (.iconst 2, 1) := by decide +kernel
theorem dM_shortBranch_31 : decode cM_shortBranch 31 = .ok (.iconst 1, 1) := by decide +kernel
theorem dM_shortBranch_32 : decode cM_shortBranch 32 = .ok (.iconst 3, 1) := by decide +kernel
theorem dM_shortBranch_33 : decode cM_shortBranch 33 = .ok (.invokestatic 559, 3) := by decide +kernel
theorem dM_shortBranch_36 : decode cM_shortBranch 36 = .ok (.ior, 1) := by decide +kernel
theorem dM_shortBranch_37 : decode cM_shortBranch 37 = .ok (.iload_n 0, 1) := by decide +kernel
theorem dM_shortBranch_38 : decode cM_shortBranch 38 = .ok (.iconst 5, 1) := by decide +kernel
theorem dM_shortBranch_39 : decode cM_shortBranch 39 = .ok (.iconst 5, 1) := by decide +kernel
theorem dM_shortBranch_40 : decode cM_shortBranch 40 = .ok (.iconst 2, 1) := by decide +kernel
theorem dM_shortBranch_41 : decode cM_shortBranch 41 = .ok (.invokestatic 559, 3) := by decide +kernel
theorem dM_shortBranch_44 : decode cM_shortBranch 44 = .ok (.ior, 1) := by decide +kernel
theorem dM_shortBranch_45 : decode cM_shortBranch 45 = .ok (.ireturn, 1) := by decide +kernel
abbrev cM_bind : ByteArray := prog_14_method_33_code
def yM_bind : MethodName := ⟨RM, "bind", "()V"⟩
abbrev rm_bind : Room := { frames := 0, cells := 0, slots := 0, locals := 0 }
theorem dM_bind_0 : decode cM_bind 0 = .ok (.iconst 1, 1) := by decide +kernel
theorem dM_bind_1 : decode cM_bind 1 = .ok (.istore_n 1, 1) := by decide +kernel
theorem dM_bind_2 : decode cM_bind 2 = .ok (.iload_n 1, 1) := by decide +kernel
theorem dM_bind_3 : decode cM_bind 3 = .ok (.ifCond .eq (121), 3) := by decide +kernel
theorem dM_bind_6 : decode cM_bind 6 = .ok (.aload_n 0, 1) := by decide +kernel
theorem dM_bind_7 : decode cM_bind 7 = .ok (.getfield 473, 3) := by decide +kernel
theorem dM_bind_10 : decode cM_bind 10 = .ok (.ifCond .le (114), 3) := by decide +kernel
theorem dM_bind_13 : decode cM_bind 13 = .ok (.aload_n 0, 1) := by decide +kernel
theorem dM_bind_14 : decode cM_bind 14 = .ok (.getfield 345, 3) := by decide +kernel
theorem dM_bind_17 : decode cM_bind 17 = .ok (.aload_n 0, 1) := by decide +kernel
theorem dM_bind_18 : decode cM_bind 18 = .ok (.getfield 473, 3) := by decide +kernel
theorem dM_bind_21 : decode cM_bind 21 = .ok (.iconst 1, 1) := by decide +kernel
theorem dM_bind_22 : decode cM_bind 22 = .ok (.isub, 1) := by decide +kernel
theorem dM_bind_23 : decode cM_bind 23 = .ok (.iaload, 1) := by decide +kernel
theorem dM_bind_24 : decode cM_bind 24 = .ok (.istore_n 2, 1) := by decide +kernel
theorem dM_bind_25 : decode cM_bind 25 = .ok (.aload_n 0, 1) := by decide +kernel
theorem dM_bind_26 : decode cM_bind 26 = .ok (.getfield 345, 3) := by decide +kernel
theorem dM_bind_29 : decode cM_bind 29 = .ok (.aload_n 0, 1) := by decide +kernel
theorem dM_bind_30 : decode cM_bind 30 = .ok (.getfield 476, 3) := by decide +kernel
theorem dM_bind_33 : decode cM_bind 33 = .ok (.iaload, 1) := by decide +kernel
theorem dM_bind_34 : decode cM_bind 34 = .ok (.istore_n 3, 1) := by decide +kernel
theorem dM_bind_35 : decode cM_bind 35 = .ok (.iload_n 2, 1) := by decide +kernel
theorem dM_bind_36 : decode cM_bind 36 = .ok (.iconst 1, 1) := by decide +kernel
theorem dM_bind_37 : decode cM_bind 37 = .ok (.if_icmp .le (12), 3) := by decide +kernel
theorem dM_bind_40 : decode cM_bind 40 = .ok (.iload_n 2, 1) := by decide +kernel
theorem dM_bind_41 : decode cM_bind 41 = .ok (.iconst 5, 1) := by decide +kernel
theorem dM_bind_42 : decode cM_bind 42 = .ok (.if_icmp .gt (7), 3) := by decide +kernel
theorem dM_bind_45 : decode cM_bind 45 = .ok (.iconst 1, 1) := by decide +kernel
theorem dM_bind_46 : decode cM_bind 46 = .ok (.goto (4), 3) := by decide +kernel
theorem dM_bind_49 : decode cM_bind 49 = .ok (.iconst 0, 1) := by decide +kernel
theorem dM_bind_50 : decode cM_bind 50 = .ok (.istore_n 1, 1) := by decide +kernel
theorem dM_bind_51 : decode cM_bind 51 = .ok (.iload_n 1, 1) := by decide +kernel
theorem dM_bind_52 : decode cM_bind 52 = .ok (.ifCond .ne (6), 3) := by decide +kernel
theorem dM_bind_55 : decode cM_bind 55 = .ok (.goto (-53), 3) := by decide +kernel
theorem dM_bind_58 : decode cM_bind 58 = .ok (.aload_n 0, 1) := by decide +kernel
theorem dM_bind_59 : decode cM_bind 59 = .ok (.getfield 345, 3) := by decide +kernel
theorem dM_bind_62 : decode cM_bind 62 = .ok (.aload_n 0, 1) := by decide +kernel
theorem dM_bind_63 : decode cM_bind 63 = .ok (.getfield 476, 3) := by decide +kernel
theorem dM_bind_66 : decode cM_bind 66 = .ok (.iload_n 2, 1) := by decide +kernel
theorem dM_bind_67 : decode cM_bind 67 = .ok (.iconst 2, 1) := by decide +kernel
theorem dM_bind_68 : decode cM_bind 68 = .ok (.if_icmp .ne (8), 3) := by decide +kernel
theorem dM_bind_71 : decode cM_bind 71 = .ok (.iload_n 3, 1) := by decide +kernel
theorem dM_bind_72 : decode cM_bind 72 = .ok (.ineg, 1) := by decide +kernel
theorem dM_bind_73 : decode cM_bind 73 = .ok (.goto (37), 3) := by decide +kernel
theorem dM_bind_76 : decode cM_bind 76 = .ok (.iload_n 2, 1) := by decide +kernel
theorem dM_bind_77 : decode cM_bind 77 = .ok (.iconst 3, 1) := by decide +kernel
theorem dM_bind_78 : decode cM_bind 78 = .ok (.if_icmp .ne (9), 3) := by decide +kernel
theorem dM_bind_81 : decode cM_bind 81 = .ok (.iload_n 3, 1) := by decide +kernel
theorem dM_bind_82 : decode cM_bind 82 = .ok (.iconst (-1), 1) := by decide +kernel
theorem dM_bind_83 : decode cM_bind 83 = .ok (.ixor, 1) := by decide +kernel
theorem dM_bind_84 : decode cM_bind 84 = .ok (.goto (26), 3) := by decide +kernel
theorem dM_bind_87 : decode cM_bind 87 = .ok (.iload_n 2, 1) := by decide +kernel
theorem dM_bind_88 : decode cM_bind 88 = .ok (.iconst 4, 1) := by decide +kernel
theorem dM_bind_89 : decode cM_bind 89 = .ok (.if_icmp .ne (14), 3) := by decide +kernel
theorem dM_bind_92 : decode cM_bind 92 = .ok (.iload_n 3, 1) := by decide +kernel
theorem dM_bind_93 : decode cM_bind 93 = .ok (.sipush 2048, 3) := by decide +kernel
theorem dM_bind_96 : decode cM_bind 96 = .ok (.iadd, 1) := by decide +kernel
theorem dM_bind_97 : decode cM_bind 97 = .ok (.bipush 12, 2) := by decide +kernel
theorem dM_bind_99 : decode cM_bind 99 = .ok (.iushr, 1) := by decide +kernel
theorem dM_bind_100 : decode cM_bind 100 = .ok (.goto (10), 3) := by decide +kernel
theorem dM_bind_103 : decode cM_bind 103 = .ok (.iload_n 3, 1) := by decide +kernel
theorem dM_bind_104 : decode cM_bind 104 = .ok (.bipush 20, 2) := by decide +kernel
theorem dM_bind_106 : decode cM_bind 106 = .ok (.ishl, 1) := by decide +kernel
theorem dM_bind_107 : decode cM_bind 107 = .ok (.bipush 20, 2) := by decide +kernel
theorem dM_bind_109 : decode cM_bind 109 = .ok (.ishr, 1) := by decide +kernel
theorem dM_bind_110 : decode cM_bind 110 = .ok (.iastore, 1) := by decide +kernel
theorem dM_bind_111 : decode cM_bind 111 = .ok (.aload_n 0, 1) := by decide +kernel
theorem dM_bind_112 : decode cM_bind 112 = .ok (.dup, 1) := by decide +kernel
theorem dM_bind_113 : decode cM_bind 113 = .ok (.getfield 473, 3) := by decide +kernel
theorem dM_bind_116 : decode cM_bind 116 = .ok (.iconst 1, 1) := by decide +kernel
theorem dM_bind_117 : decode cM_bind 117 = .ok (.isub, 1) := by decide +kernel
theorem dM_bind_118 : decode cM_bind 118 = .ok (.putfield 473, 3) := by decide +kernel
theorem dM_bind_121 : decode cM_bind 121 = .ok (.goto (-119), 3) := by decide +kernel
theorem dM_bind_124 : decode cM_bind 124 = .ok (.return_, 1) := by decide +kernel
abbrev cM_worked : ByteArray := prog_14_method_31_code
def yM_worked : MethodName := ⟨RM, "worked", "(III)I"⟩
abbrev rm_worked : Room := { frames := 0, cells := 0, slots := 0, locals := 0 }
theorem dM_worked_0 : decode cM_worked 0 = .ok (.iload_n 1, 1) := by decide +kernel
theorem dM_worked_1 : decode cM_worked 1 = .ok (.lookupswitch (113) #[(6, 87), (7, 94), (38, 101), (42, 75), (43, 79), (45, 83), (94, 105), (124, 109)], 75) := by decide +kernel
theorem dM_worked_76 : decode cM_worked 76 = .ok (.iload_n 2, 1) := by decide +kernel
theorem dM_worked_77 : decode cM_worked 77 = .ok (.iload_n 3, 1) := by decide +kernel
theorem dM_worked_78 : decode cM_worked 78 = .ok (.imul, 1) := by decide +kernel
theorem dM_worked_79 : decode cM_worked 79 = .ok (.ireturn, 1) := by decide +kernel
theorem dM_worked_80 : decode cM_worked 80 = .ok (.iload_n 2, 1) := by decide +kernel
theorem dM_worked_81 : decode cM_worked 81 = .ok (.iload_n 3, 1) := by decide +kernel
theorem dM_worked_82 : decode cM_worked 82 = .ok (.iadd, 1) := by decide +kernel
theorem dM_worked_83 : decode cM_worked 83 = .ok (.ireturn, 1) := by decide +kernel
theorem dM_worked_84 : decode cM_worked 84 = .ok (.iload_n 2, 1) := by decide +kernel
theorem dM_worked_85 : decode cM_worked 85 = .ok (.iload_n 3, 1) := by decide +kernel
theorem dM_worked_86 : decode cM_worked 86 = .ok (.isub, 1) := by decide +kernel
theorem dM_worked_87 : decode cM_worked 87 = .ok (.ireturn, 1) := by decide +kernel
theorem dM_worked_88 : decode cM_worked 88 = .ok (.iload_n 2, 1) := by decide +kernel
theorem dM_worked_89 : decode cM_worked 89 = .ok (.iload_n 3, 1) := by decide +kernel
theorem dM_worked_90 : decode cM_worked 90 = .ok (.bipush 31, 2) := by decide +kernel
theorem dM_worked_92 : decode cM_worked 92 = .ok (.iand, 1) := by decide +kernel
theorem dM_worked_93 : decode cM_worked 93 = .ok (.ishl, 1) := by decide +kernel
theorem dM_worked_94 : decode cM_worked 94 = .ok (.ireturn, 1) := by decide +kernel
theorem dM_worked_95 : decode cM_worked 95 = .ok (.iload_n 2, 1) := by decide +kernel
theorem dM_worked_96 : decode cM_worked 96 = .ok (.iload_n 3, 1) := by decide +kernel
theorem dM_worked_97 : decode cM_worked 97 = .ok (.bipush 31, 2) := by decide +kernel
theorem dM_worked_99 : decode cM_worked 99 = .ok (.iand, 1) := by decide +kernel
theorem dM_worked_100 : decode cM_worked 100 = .ok (.ishr, 1) := by decide +kernel
theorem dM_worked_101 : decode cM_worked 101 = .ok (.ireturn, 1) := by decide +kernel
theorem dM_worked_102 : decode cM_worked 102 = .ok (.iload_n 2, 1) := by decide +kernel
theorem dM_worked_103 : decode cM_worked 103 = .ok (.iload_n 3, 1) := by decide +kernel
theorem dM_worked_104 : decode cM_worked 104 = .ok (.iand, 1) := by decide +kernel
theorem dM_worked_105 : decode cM_worked 105 = .ok (.ireturn, 1) := by decide +kernel
theorem dM_worked_106 : decode cM_worked 106 = .ok (.iload_n 2, 1) := by decide +kernel
theorem dM_worked_107 : decode cM_worked 107 = .ok (.iload_n 3, 1) := by decide +kernel
theorem dM_worked_108 : decode cM_worked 108 = .ok (.ixor, 1) := by decide +kernel
theorem dM_worked_109 : decode cM_worked 109 = .ok (.ireturn, 1) := by decide +kernel
theorem dM_worked_110 : decode cM_worked 110 = .ok (.iload_n 2, 1) := by decide +kernel
theorem dM_worked_111 : decode cM_worked 111 = .ok (.iload_n 3, 1) := by decide +kernel
theorem dM_worked_112 : decode cM_worked 112 = .ok (.ior, 1) := by decide +kernel
theorem dM_worked_113 : decode cM_worked 113 = .ok (.ireturn, 1) := by decide +kernel
theorem dM_worked_114 : decode cM_worked 114 = .ok (.aload_n 0, 1) := by decide +kernel
theorem dM_worked_115 : decode cM_worked 115 = .ok (.aload_n 0, 1) := by decide +kernel
theorem dM_worked_116 : decode cM_worked 116 = .ok (.getfield 479, 3) := by decide +kernel
theorem dM_worked_119 : decode cM_worked 119 = .ok (.ifCond .ne (7), 3) := by decide +kernel
theorem dM_worked_122 : decode cM_worked 122 = .ok (.iload_n 3, 1) := by decide +kernel
theorem dM_worked_123 : decode cM_worked 123 = .ok (.ifCond .ne (7), 3) := by decide +kernel
theorem dM_worked_126 : decode cM_worked 126 = .ok (.iconst 1, 1) := by decide +kernel
theorem dM_worked_127 : decode cM_worked 127 = .ok (.goto (4), 3) := by decide +kernel
theorem dM_worked_130 : decode cM_worked 130 = .ok (.iconst 0, 1) := by decide +kernel
theorem dM_worked_131 : decode cM_worked 131 = .ok (.putfield 479, 3) := by decide +kernel
theorem dM_worked_134 : decode cM_worked 134 = .ok (.iload_n 3, 1) := by decide +kernel
theorem dM_worked_135 : decode cM_worked 135 = .ok (.ifCond .ne (7), 3) := by decide +kernel
theorem dM_worked_138 : decode cM_worked 138 = .ok (.iconst 0, 1) := by decide +kernel
theorem dM_worked_139 : decode cM_worked 139 = .ok (.goto (18), 3) := by decide +kernel
theorem dM_worked_142 : decode cM_worked 142 = .ok (.iload_n 1, 1) := by decide +kernel
theorem dM_worked_143 : decode cM_worked 143 = .ok (.bipush 47, 2) := by decide +kernel
theorem dM_worked_145 : decode cM_worked 145 = .ok (.if_icmp .ne (9), 3) := by decide +kernel
theorem dM_worked_148 : decode cM_worked 148 = .ok (.iload_n 2, 1) := by decide +kernel
theorem dM_worked_149 : decode cM_worked 149 = .ok (.iload_n 3, 1) := by decide +kernel
theorem dM_worked_150 : decode cM_worked 150 = .ok (.idiv, 1) := by decide +kernel
theorem dM_worked_151 : decode cM_worked 151 = .ok (.goto (6), 3) := by decide +kernel
theorem dM_worked_154 : decode cM_worked 154 = .ok (.iload_n 2, 1) := by decide +kernel
theorem dM_worked_155 : decode cM_worked 155 = .ok (.iload_n 3, 1) := by decide +kernel
theorem dM_worked_156 : decode cM_worked 156 = .ok (.irem, 1) := by decide +kernel
theorem dM_worked_157 : decode cM_worked 157 = .ok (.ireturn, 1) := by decide +kernel
abbrev cM_join : ByteArray := prog_14_method_32_code
def yM_join : MethodName := ⟨RM, "join", "()V"⟩
abbrev rm_join : Room := { frames := 1, cells := 0, slots := 0, locals := 23 }
theorem dM_join_0 : decode cM_join 0 = .ok (.aload_n 0, 1) := by decide +kernel
theorem dM_join_1 : decode cM_join 1 = .ok (.dup, 1) := by decide +kernel
theorem dM_join_2 : decode cM_join 2 = .ok (.getfield 473, 3) := by decide +kernel
theorem dM_join_5 : decode cM_join 5 = .ok (.iconst 1, 1) := by decide +kernel
theorem dM_join_6 : decode cM_join 6 = .ok (.isub, 1) := by decide +kernel
theorem dM_join_7 : decode cM_join 7 = .ok (.putfield 473, 3) := by decide +kernel
theorem dM_join_10 : decode cM_join 10 = .ok (.aload_n 0, 1) := by decide +kernel
theorem dM_join_11 : decode cM_join 11 = .ok (.getfield 345, 3) := by decide +kernel
theorem dM_join_14 : decode cM_join 14 = .ok (.aload_n 0, 1) := by decide +kernel
theorem dM_join_15 : decode cM_join 15 = .ok (.getfield 476, 3) := by decide +kernel
theorem dM_join_18 : decode cM_join 18 = .ok (.iaload, 1) := by decide +kernel
theorem dM_join_19 : decode cM_join 19 = .ok (.istore_n 1, 1) := by decide +kernel
theorem dM_join_20 : decode cM_join 20 = .ok (.aload_n 0, 1) := by decide +kernel
theorem dM_join_21 : decode cM_join 21 = .ok (.dup, 1) := by decide +kernel
theorem dM_join_22 : decode cM_join 22 = .ok (.getfield 476, 3) := by decide +kernel
theorem dM_join_25 : decode cM_join 25 = .ok (.iconst 1, 1) := by decide +kernel
theorem dM_join_26 : decode cM_join 26 = .ok (.iadd, 1) := by decide +kernel
theorem dM_join_27 : decode cM_join 27 = .ok (.putfield 476, 3) := by decide +kernel
theorem dM_join_30 : decode cM_join 30 = .ok (.aload_n 0, 1) := by decide +kernel
theorem dM_join_31 : decode cM_join 31 = .ok (.getfield 345, 3) := by decide +kernel
theorem dM_join_34 : decode cM_join 34 = .ok (.aload_n 0, 1) := by decide +kernel
theorem dM_join_35 : decode cM_join 35 = .ok (.getfield 476, 3) := by decide +kernel
theorem dM_join_38 : decode cM_join 38 = .ok (.aload_n 0, 1) := by decide +kernel
theorem dM_join_39 : decode cM_join 39 = .ok (.aload_n 0, 1) := by decide +kernel
theorem dM_join_40 : decode cM_join 40 = .ok (.getfield 345, 3) := by decide +kernel
theorem dM_join_43 : decode cM_join 43 = .ok (.aload_n 0, 1) := by decide +kernel
theorem dM_join_44 : decode cM_join 44 = .ok (.getfield 473, 3) := by decide +kernel
theorem dM_join_47 : decode cM_join 47 = .ok (.iaload, 1) := by decide +kernel
theorem dM_join_48 : decode cM_join 48 = .ok (.aload_n 0, 1) := by decide +kernel
theorem dM_join_49 : decode cM_join 49 = .ok (.getfield 345, 3) := by decide +kernel
theorem dM_join_52 : decode cM_join 52 = .ok (.aload_n 0, 1) := by decide +kernel
theorem dM_join_53 : decode cM_join 53 = .ok (.getfield 476, 3) := by decide +kernel
theorem dM_join_56 : decode cM_join 56 = .ok (.iaload, 1) := by decide +kernel
theorem dM_join_57 : decode cM_join 57 = .ok (.iload_n 1, 1) := by decide +kernel
theorem dM_join_58 : decode cM_join 58 = .ok (.invokevirtual 482, 3) := by decide +kernel
theorem dM_join_61 : decode cM_join 61 = .ok (.iastore, 1) := by decide +kernel
theorem dM_join_62 : decode cM_join 62 = .ok (.return_, 1) := by decide +kernel
abbrev cM_isAlike : ByteArray := prog_14_method_22_code
def yM_isAlike : MethodName := ⟨RM, "isAlike", "(III)Z"⟩
abbrev rm_isAlike : Room := { frames := 2, cells := 0, slots := 0, locals := 40 }
theorem dM_isAlike_0 : decode cM_isAlike 0 = .ok (.iload_n 1, 1) := by decide +kernel
theorem dM_isAlike_1 : decode cM_isAlike 1 = .ok (.istore 4, 2) := by decide +kernel
theorem dM_isAlike_3 : decode cM_isAlike 3 = .ok (.iload 4, 2) := by decide +kernel
theorem dM_isAlike_5 : decode cM_isAlike 5 = .ok (.iload_n 2, 1) := by decide +kernel
theorem dM_isAlike_6 : decode cM_isAlike 6 = .ok (.if_icmp .ge (31), 3) := by decide +kernel
theorem dM_isAlike_9 : decode cM_isAlike 9 = .ok (.aload_n 0, 1) := by decide +kernel
theorem dM_isAlike_10 : decode cM_isAlike 10 = .ok (.iload_n 3, 1) := by decide +kernel
theorem dM_isAlike_11 : decode cM_isAlike 11 = .ok (.iload 4, 2) := by decide +kernel
theorem dM_isAlike_13 : decode cM_isAlike 13 = .ok (.iadd, 1) := by decide +kernel
theorem dM_isAlike_14 : decode cM_isAlike 14 = .ok (.iload_n 1, 1) := by decide +kernel
theorem dM_isAlike_15 : decode cM_isAlike 15 = .ok (.isub, 1) := by decide +kernel
theorem dM_isAlike_16 : decode cM_isAlike 16 = .ok (.invokevirtual 368, 3) := by decide +kernel
theorem dM_isAlike_19 : decode cM_isAlike 19 = .ok (.aload_n 0, 1) := by decide +kernel
theorem dM_isAlike_20 : decode cM_isAlike 20 = .ok (.getfield 327, 3) := by decide +kernel
theorem dM_isAlike_23 : decode cM_isAlike 23 = .ok (.iload 4, 2) := by decide +kernel
theorem dM_isAlike_25 : decode cM_isAlike 25 = .ok (.caload, 1) := by decide +kernel
theorem dM_isAlike_26 : decode cM_isAlike 26 = .ok (.if_icmp .eq (5), 3) := by decide +kernel
theorem dM_isAlike_29 : decode cM_isAlike 29 = .ok (.iconst 0, 1) := by decide +kernel
theorem dM_isAlike_30 : decode cM_isAlike 30 = .ok (.ireturn, 1) := by decide +kernel
theorem dM_isAlike_31 : decode cM_isAlike 31 = .ok (.iinc 4 (1), 3) := by decide +kernel
theorem dM_isAlike_34 : decode cM_isAlike 34 = .ok (.goto (-31), 3) := by decide +kernel
theorem dM_isAlike_37 : decode cM_isAlike 37 = .ok (.aload_n 0, 1) := by decide +kernel
theorem dM_isAlike_38 : decode cM_isAlike 38 = .ok (.iload_n 3, 1) := by decide +kernel
theorem dM_isAlike_39 : decode cM_isAlike 39 = .ok (.iload_n 2, 1) := by decide +kernel
theorem dM_isAlike_40 : decode cM_isAlike 40 = .ok (.iadd, 1) := by decide +kernel
theorem dM_isAlike_41 : decode cM_isAlike 41 = .ok (.iload_n 1, 1) := by decide +kernel
theorem dM_isAlike_42 : decode cM_isAlike 42 = .ok (.isub, 1) := by decide +kernel
theorem dM_isAlike_43 : decode cM_isAlike 43 = .ok (.invokevirtual 368, 3) := by decide +kernel
theorem dM_isAlike_46 : decode cM_isAlike 46 = .ok (.invokestatic 372, 3) := by decide +kernel
theorem dM_isAlike_49 : decode cM_isAlike 49 = .ok (.ifCond .ne (7), 3) := by decide +kernel
theorem dM_isAlike_52 : decode cM_isAlike 52 = .ok (.iconst 1, 1) := by decide +kernel
theorem dM_isAlike_53 : decode cM_isAlike 53 = .ok (.goto (4), 3) := by decide +kernel
theorem dM_isAlike_56 : decode cM_isAlike 56 = .ok (.iconst 0, 1) := by decide +kernel
theorem dM_isAlike_57 : decode cM_isAlike 57 = .ok (.ireturn, 1) := by decide +kernel
abbrev cM_find : ByteArray := prog_14_method_23_code
def yM_find : MethodName := ⟨RM, "find", "(II)I"⟩
abbrev rm_find : Room := { frames := 3, cells := 0, slots := 0, locals := 64 }
theorem dM_find_0 : decode cM_find 0 = .ok (.iconst 0, 1) := by decide +kernel
theorem dM_find_1 : decode cM_find 1 = .ok (.istore_n 3, 1) := by decide +kernel
theorem dM_find_2 : decode cM_find 2 = .ok (.iload_n 3, 1) := by decide +kernel
theorem dM_find_3 : decode cM_find 3 = .ok (.aload_n 0, 1) := by decide +kernel
theorem dM_find_4 : decode cM_find 4 = .ok (.getfield 449, 3) := by decide +kernel
theorem dM_find_7 : decode cM_find 7 = .ok (.if_icmp .ge (43), 3) := by decide +kernel
theorem dM_find_10 : decode cM_find 10 = .ok (.aload_n 0, 1) := by decide +kernel
theorem dM_find_11 : decode cM_find 11 = .ok (.getfield 339, 3) := by decide +kernel
theorem dM_find_14 : decode cM_find 14 = .ok (.iload_n 3, 1) := by decide +kernel
theorem dM_find_15 : decode cM_find 15 = .ok (.iaload, 1) := by decide +kernel
theorem dM_find_16 : decode cM_find 16 = .ok (.bipush 13, 2) := by decide +kernel
theorem dM_find_18 : decode cM_find 18 = .ok (.ishr, 1) := by decide +kernel
theorem dM_find_19 : decode cM_find 19 = .ok (.iconst 3, 1) := by decide +kernel
theorem dM_find_20 : decode cM_find 20 = .ok (.if_icmp .ge (24), 3) := by decide +kernel
theorem dM_find_23 : decode cM_find 23 = .ok (.aload_n 0, 1) := by decide +kernel
theorem dM_find_24 : decode cM_find 24 = .ok (.iload_n 1, 1) := by decide +kernel
theorem dM_find_25 : decode cM_find 25 = .ok (.iload_n 2, 1) := by decide +kernel
theorem dM_find_26 : decode cM_find 26 = .ok (.aload_n 0, 1) := by decide +kernel
theorem dM_find_27 : decode cM_find 27 = .ok (.getfield 339, 3) := by decide +kernel
theorem dM_find_30 : decode cM_find 30 = .ok (.iload_n 3, 1) := by decide +kernel
theorem dM_find_31 : decode cM_find 31 = .ok (.iaload, 1) := by decide +kernel
theorem dM_find_32 : decode cM_find 32 = .ok (.sipush 8191, 3) := by decide +kernel
theorem dM_find_35 : decode cM_find 35 = .ok (.iand, 1) := by decide +kernel
theorem dM_find_36 : decode cM_find 36 = .ok (.invokevirtual 452, 3) := by decide +kernel
theorem dM_find_39 : decode cM_find 39 = .ok (.ifCond .eq (5), 3) := by decide +kernel
theorem dM_find_42 : decode cM_find 42 = .ok (.iload_n 3, 1) := by decide +kernel
theorem dM_find_43 : decode cM_find 43 = .ok (.ireturn, 1) := by decide +kernel
theorem dM_find_44 : decode cM_find 44 = .ok (.iinc 3 (1), 3) := by decide +kernel
theorem dM_find_47 : decode cM_find 47 = .ok (.goto (-45), 3) := by decide +kernel
theorem dM_find_50 : decode cM_find 50 = .ok (.iconst (-1), 1) := by decide +kernel
theorem dM_find_51 : decode cM_find 51 = .ok (.ireturn, 1) := by decide +kernel
abbrev cM_value : ByteArray := prog_14_method_29_code
def yM_value : MethodName := ⟨RM, "value", "(I)V"⟩
abbrev rm_value : Room := { frames := 0, cells := 0, slots := 0, locals := 0 }
theorem dM_value_0 : decode cM_value 0 = .ok (.aload_n 0, 1) := by decide +kernel
theorem dM_value_1 : decode cM_value 1 = .ok (.dup, 1) := by decide +kernel
theorem dM_value_2 : decode cM_value 2 = .ok (.getfield 476, 3) := by decide +kernel
theorem dM_value_5 : decode cM_value 5 = .ok (.iconst 1, 1) := by decide +kernel
theorem dM_value_6 : decode cM_value 6 = .ok (.isub, 1) := by decide +kernel
theorem dM_value_7 : decode cM_value 7 = .ok (.putfield 476, 3) := by decide +kernel
theorem dM_value_10 : decode cM_value 10 = .ok (.aload_n 0, 1) := by decide +kernel
theorem dM_value_11 : decode cM_value 11 = .ok (.getfield 345, 3) := by decide +kernel
theorem dM_value_14 : decode cM_value 14 = .ok (.aload_n 0, 1) := by decide +kernel
theorem dM_value_15 : decode cM_value 15 = .ok (.getfield 476, 3) := by decide +kernel
theorem dM_value_18 : decode cM_value 18 = .ok (.iload_n 1, 1) := by decide +kernel
theorem dM_value_19 : decode cM_value 19 = .ok (.iastore, 1) := by decide +kernel
theorem dM_value_20 : decode cM_value 20 = .ok (.return_, 1) := by decide +kernel
theorem gM_bits_559 : GoodIn lw_gd (wsS RM 559 yM_bits (.code yM_bits cM_bits 4 (some .int) :: lw_gd)) := lw_GS q_2019 q_2017 q_2018 q_23
theorem gM_isAlike_452 : GoodIn lw_gd (wsV RM 452 RM yM_isAlike (.code yM_isAlike cM_isAlike 5 (some .boolean) :: lw_gd)) := lw_GV q_1881 q_1878 q_1880 qs_66 q_23
theorem gM_needs_515 : GoodIn lw_gd (wsV RM 515 RM yM_needs (.code yM_needs cM_needs 2 (some .boolean) :: lw_gd)) := lw_GV q_1912 q_1909 q_1911 qs_73 q_23
theorem gM_put_553 : GoodIn lw_gd (wsV RM 553 RM yM_put (.code yM_put cM_put 2 none :: lw_gd)) := lw_GV q_1980 q_1977 q_1979 qs_88 q_23
theorem gM_register_486 : GoodIn lw_gd (wsV RM 486 RM yM_register (.code yM_register cM_register 7 (some .int) :: lw_gd)) := lw_GV q_1863 q_1860 q_1862 qs_63 q_23
theorem gM_taken_541 : GoodIn lw_gd (wsV RM 541 RM yM_taken (.code yM_taken cM_taken 2 (some .int) :: lw_gd)) := lw_GV q_2026 q_2023 q_2025 qs_97 q_23
theorem gM_worked_482 : GoodIn lw_gd (wsV RM 482 RM yM_worked (.code yM_worked cM_worked 4 (some .int) :: lw_gd)) := lw_GV q_1971 q_1968 q_1970 qs_86 q_23
section
variable {p : Program} {l : Launch} {e : Env} {s : State} {m : MethodId} {args : Array Value} {below : List Frame} {meth : Method} {c : Code} {D : va_G} {dA : Nat → ClassId} {h : Nat → Nat} {A : Nat → Prop}
def M_taken_70 (N : Nat) (t0 : Int32) (σ : MS) : Option (Int32 × MS) :=
  some (t0, σ)
set_option maxHeartbeats 4000000 in
set_option maxRecDepth 100000 in
theorem bM_taken_70 (N : Nat)  {r : Int32} {σ' : MS} (C : CxM p s m args meth c cM_taken 2 (some .int) D dA A) (t0 : Int32) (σ : MS) (hM : M_taken_70 N  t0 σ = some (r, σ')) (H : Heap) (locs : List Loc) (hW : WdM D dA h A s σ H locs) (ls : Array Slot) (hl : lv_has ls 2 []) : W p l e rm_taken s m args below meth c H locs 0 0 (MQ below (QM D dA h A σ' (some (.int r))) args s 0 0 A) (F0 m 70 ls [.int t0]) := by
  have hx := C.1.1
  have hb := C.1.2.1
  have hown := C.1.2.2.2.2.1
  have hT := C.1.2.2.2.2.2.1
  unfold M_taken_70 at hM
  obtain ⟨rfl, rfl⟩ := sm_p hM
  exact x_retMi (pc := 70) C rfl hW dM_taken_70
def M_taken_61 (N : Nat) (x1 : Int32) (σ : MS) : Option (Int32 × MS) :=
  (if 0 ≤ x1 then M_taken_70 N  x1 σ else M_taken_70 N  (0 : Int32) σ)
set_option maxHeartbeats 4000000 in
set_option maxRecDepth 100000 in
theorem bM_taken_61 (N : Nat)  {r : Int32} {σ' : MS} (C : CxM p s m args meth c cM_taken 2 (some .int) D dA A) (x1 : Int32) (σ : MS) (hM : M_taken_61 N  x1 σ = some (r, σ')) (H : Heap) (locs : List Loc) (hW : WdM D dA h A s σ H locs) (ls : Array Slot) (hl : lv_has ls 2 [(1, .int x1)]) : W p l e rm_taken s m args below meth c H locs 0 0 (MQ below (QM D dA h A σ' (some (.int r))) args s 0 0 A) (F0 m 61 ls []) := by
  have hx := C.1.1
  have hb := C.1.2.1
  have hown := C.1.2.2.2.2.1
  have hT := C.1.2.2.2.2.2.1
  unfold M_taken_61 at hM
  refine lv_iload_n (pc := 61) hx hb dM_taken_61 rfl (lv_at hl 0 rfl) ?_
  refine lv_if_ge (pc := 62) (tgt := 69) hx hb dM_taken_62 (by decide) (fun hc => ?_) (fun hc => ?_)
  · replace hM := it_t hc hM
    refine lv_iload_n (pc := 69) hx hb dM_taken_69 rfl (lv_at hl 0 rfl) ?_
    exact bM_taken_70 N  C  _ _ hM _ _ hW _ (lv_sub hl [] rfl)
  · replace hM := it_f hc hM
    refine lv_iconst (pc := 65) (v := 0) hx hb dM_taken_65 (by decide) ?_
    refine lv_goto (pc := 66) (tgt := 70) hx hb dM_taken_66 (by decide) ?_
    exact bM_taken_70 N  C  _ _ hM _ _ hW _ (lv_sub hl [] rfl)
def M_taken_44 (N : Nat) (x1 : Int32) (σ : MS) : Option (Int32 × MS) :=
  cl (M_blame  (1 : Int32) σ) (fun r1 σ2 => M_taken_61 N  x1 σ2)
set_option maxHeartbeats 4000000 in
set_option maxRecDepth 100000 in
theorem bM_taken_44 (N : Nat)  {r : Int32} {σ' : MS} (C : CxM p s m args meth c cM_taken 2 (some .int) D dA A) (x1 : Int32) (σ : MS) (hM : M_taken_44 N  x1 σ = some (r, σ')) (H : Heap) (locs : List Loc) (hW : WdM D dA h A s σ H locs) (ls : Array Slot) (hl : lv_has ls 2 [(0, .ref (h 0)), (1, .int x1)]) : W p l e rm_taken s m args below meth c H locs 0 0 (MQ below (QM D dA h A σ' (some (.int r))) args s 0 0 A) (F0 m 44 ls []) := by
  have hx := C.1.1
  have hb := C.1.2.1
  have hown := C.1.2.2.2.2.1
  have hT := C.1.2.2.2.2.2.1
  unfold M_taken_44 at hM
  refine lv_aload_n (pc := 44) hx hb dM_taken_44 rfl (lv_at hl 0 rfl) ?_
  refine lv_iconst (pc := 45) (v := 1) hx hb dM_taken_45 (by decide) ?_
  obtain ⟨r1, σ2, hr1, hM⟩ := cl_some hM
  refine x_callMv (pc := 46) C hW (kM_blame l D dA h  (1 : Int32) _ hr1) gM_blame_429 ⟨rfl, by decide, by decide, by decide +kernel⟩ ⟨rfl, rfl⟩ ⟨by decide, by decide⟩ ⟨by decide, by decide⟩ (As := [.int (1 : Int32)]) (n := 1) rfl hl.1 rfl (Nat.le_of_ble_eq_true rfl) dM_taken_46 (fun H locs hW => ?_)
  refine lv_goto (pc := 49) (tgt := 61) hx hb dM_taken_49 (by decide) ?_
  exact bM_taken_61 N  C  _ _ hM _ _ hW _ (lv_sub hl [1] rfl)
def M_taken_28 (N : Nat) (t0 : Int32) (σ : MS) : Option (Int32 × MS) :=
  (if (σ.1 10) = 0 then M_taken_44 N  t0 σ else (if (σ.1 10) = (5 : Int32) then M_taken_44 N  t0 σ else (if 0 ≤ t0 then M_taken_61 N  t0 σ else cl (M_blame  (3 : Int32) σ) (fun r1 σ2 => M_taken_61 N  t0 σ2))))
set_option maxHeartbeats 4000000 in
set_option maxRecDepth 100000 in
theorem bM_taken_28 (N : Nat)  {r : Int32} {σ' : MS} (C : CxM p s m args meth c cM_taken 2 (some .int) D dA A) (t0 : Int32) (σ : MS) (hM : M_taken_28 N  t0 σ = some (r, σ')) (H : Heap) (locs : List Loc) (hW : WdM D dA h A s σ H locs) (ls : Array Slot) (hl : lv_has ls 2 [(0, .ref (h 0))]) : W p l e rm_taken s m args below meth c H locs 0 0 (MQ below (QM D dA h A σ' (some (.int r))) args s 0 0 A) (F0 m 28 ls [.int t0]) := by
  have hx := C.1.1
  have hb := C.1.2.1
  have hown := C.1.2.2.2.2.1
  have hT := C.1.2.2.2.2.2.1
  unfold M_taken_28 at hM
  refine lv_istore_n (pc := 28) (lv' := [(1, .int t0), (0, .ref (h 0))]) hx hb dM_taken_28 rfl hl (by decide) rfl (fun ls hl => ?_)
  refine lv_aload_n (pc := 29) hx hb dM_taken_29 rfl (lv_at hl 1 rfl) ?_
  refine gM (pc := 30) C hW 20 (by decide) q_1677 rfl rfl dM_taken_30 ?_
  refine lv_if_eq (pc := 33) (tgt := 44) hx hb dM_taken_33 (by decide) (fun hc => ?_) (fun hc => ?_)
  · replace hM := it_t hc hM
    exact bM_taken_44 N  C  _ _ hM _ _ hW _ (lv_sub hl [1, 0] rfl)
  · replace hM := it_f hc hM
    refine lv_aload_n (pc := 36) hx hb dM_taken_36 rfl (lv_at hl 1 rfl) ?_
    refine gM (pc := 37) C hW 20 (by decide) q_1677 rfl rfl dM_taken_37 ?_
    refine lv_iconst (pc := 40) (v := 5) hx hb dM_taken_40 (by decide) ?_
    refine lv_icmp_ne (pc := 41) (tgt := 52) hx hb dM_taken_41 (by decide) (fun hc => ?_) (fun hc => ?_)
    · replace hM := it_f hc hM
      refine lv_iload_n (pc := 52) hx hb dM_taken_52 rfl (lv_at hl 0 rfl) ?_
      refine lv_if_ge (pc := 53) (tgt := 61) hx hb dM_taken_53 (by decide) (fun hc => ?_) (fun hc => ?_)
      · replace hM := it_t hc hM
        exact bM_taken_61 N  C  _ _ hM _ _ hW _ (lv_sub hl [0] rfl)
      · replace hM := it_f hc hM
        refine lv_aload_n (pc := 56) hx hb dM_taken_56 rfl (lv_at hl 1 rfl) ?_
        refine lv_iconst (pc := 57) (v := 3) hx hb dM_taken_57 (by decide) ?_
        obtain ⟨r1, σ2, hr1, hM⟩ := cl_some hM
        refine x_callMv (pc := 58) C hW (kM_blame l D dA h  (3 : Int32) _ hr1) gM_blame_429 ⟨rfl, by decide, by decide, by decide +kernel⟩ ⟨rfl, rfl⟩ ⟨by decide, by decide⟩ ⟨by decide, by decide⟩ (As := [.int (3 : Int32)]) (n := 1) rfl hl.1 rfl (Nat.le_of_ble_eq_true rfl) dM_taken_58 (fun H locs hW => ?_)
        exact bM_taken_61 N  C  _ _ hM _ _ hW _ (lv_sub hl [0] rfl)
    · replace hM := it_t hc hM
      exact bM_taken_44 N  C  _ _ hM _ _ hW _ (lv_sub hl [1, 0] rfl)
def M_taken (N : Nat)  (σ : MS) : Option (Int32 × MS) :=
  cl (M_scan N σ) (fun r1 σ2 => (if (σ2.1 10) = (1 : Int32) then cr (M_register N (σ2.1 11) (σ2.1 12) σ2) (fun r3 => M_taken_28 N  r3 σ2) else M_taken_28 N  (-1 : Int32) σ2))
set_option maxHeartbeats 4000000 in
set_option maxRecDepth 100000 in
theorem bM_taken_0 (N : Nat)  {r : Int32} {σ' : MS} (C : CxM p s m args meth c cM_taken 2 (some .int) D dA A)  (σ : MS) (hM : M_taken N   σ = some (r, σ')) (H : Heap) (locs : List Loc) (hW : WdM D dA h A s σ H locs) (ls : Array Slot) (hl : lv_has ls 2 [(0, .ref (h 0))]) : W p l e rm_taken s m args below meth c H locs 0 0 (MQ below (QM D dA h A σ' (some (.int r))) args s 0 0 A) (F0 m 0 ls []) := by
  have hx := C.1.1
  have hb := C.1.2.1
  have hown := C.1.2.2.2.2.1
  have hT := C.1.2.2.2.2.2.1
  unfold M_taken at hM
  refine lv_aload_n (pc := 0) hx hb dM_taken_0 rfl (lv_at hl 0 rfl) ?_
  obtain ⟨r1, σ2, hr1, hM⟩ := cl_some hM
  refine x_callMv (pc := 1) C hW (kM_scan l D dA h N _ hr1) gM_scan_426 ⟨rfl, by decide, by decide, by decide +kernel⟩ ⟨rfl, rfl⟩ ⟨by decide, by decide⟩ ⟨by decide, by decide⟩ (As := []) (n := 0) rfl hl.1 rfl (Nat.le_of_ble_eq_true rfl) dM_taken_1 (fun H locs hW => ?_)
  refine lv_aload_n (pc := 4) hx hb dM_taken_4 rfl (lv_at hl 0 rfl) ?_
  refine gM (pc := 5) C hW 20 (by decide) q_1677 rfl rfl dM_taken_5 ?_
  refine lv_iconst (pc := 8) (v := 1) hx hb dM_taken_8 (by decide) ?_
  refine lv_icmp_ne (pc := 9) (tgt := 27) hx hb dM_taken_9 (by decide) (fun hc => ?_) (fun hc => ?_)
  · replace hM := it_f hc hM
    refine lv_iconst (pc := 27) (v := -1) hx hb dM_taken_27 (by decide) ?_
    exact bM_taken_28 N  C  _ _ hM _ _ hW _ (lv_sub hl [0] rfl)
  · replace hM := it_t hc hM
    refine lv_aload_n (pc := 12) hx hb dM_taken_12 rfl (lv_at hl 0 rfl) ?_
    refine lv_aload_n (pc := 13) hx hb dM_taken_13 rfl (lv_at hl 0 rfl) ?_
    refine gM (pc := 14) C hW 21 (by decide) q_1678 rfl rfl dM_taken_14 ?_
    refine lv_aload_n (pc := 17) hx hb dM_taken_17 rfl (lv_at hl 0 rfl) ?_
    refine gM (pc := 18) C hW 22 (by decide) q_1679 rfl rfl dM_taken_18 ?_
    obtain ⟨r3, hr3, hM⟩ := cr_some hM
    refine x_callRi (pc := 21) C hW (kM_register l D dA h N (σ2.1 11) (σ2.1 12) _ hr3) gM_register_486 ⟨rfl, by decide, by decide, by decide +kernel⟩ ⟨rfl, rfl⟩ ⟨by decide, by decide⟩ ⟨by decide, by decide⟩ (As := [.int (σ2.1 11), .int (σ2.1 12)]) (n := 2) rfl hl.1 rfl (Nat.le_of_ble_eq_true rfl) dM_taken_21 ?_
    refine lv_goto (pc := 24) (tgt := 28) hx hb dM_taken_24 (by decide) ?_
    exact bM_taken_28 N  C  _ _ hM _ _ hW _ (lv_sub hl [0] rfl)
theorem kM_taken (l : Launch) (D : va_G) (dA : Nat → ClassId) (h : Nat → Nat) (N : Nat)  (σ : MS) {r : Int32} {σ' : MS} (hM : M_taken N  σ = some (r, σ')) : KM l D dA yM_taken cM_taken 2 (some .int) rm_taken h σ [] (some (.int r)) σ' := x_enterM rfl (Nat.le_of_ble_eq_true rfl) (fun p e s m args below meth c A C hW ls hl => bM_taken_0 N C  σ hM s.heap [] hW ls hl)
def M_behind_17 (N : Nat) (t0 : Int32) (σ : MS) : Option (Int32 × MS) :=
  some (t0, σ)
set_option maxHeartbeats 4000000 in
set_option maxRecDepth 100000 in
theorem bM_behind_17 (N : Nat)  {r : Int32} {σ' : MS} (C : CxM p s m args meth c cM_behind 1 (some .int) D dA A) (t0 : Int32) (σ : MS) (hM : M_behind_17 N  t0 σ = some (r, σ')) (H : Heap) (locs : List Loc) (hW : WdM D dA h A s σ H locs) (ls : Array Slot) (hl : lv_has ls 1 []) : W p l e rm_behind s m args below meth c H locs 0 0 (MQ below (QM D dA h A σ' (some (.int r))) args s 0 0 A) (F0 m 17 ls [.int t0]) := by
  have hx := C.1.1
  have hb := C.1.2.1
  have hown := C.1.2.2.2.2.1
  have hT := C.1.2.2.2.2.2.1
  unfold M_behind_17 at hM
  obtain ⟨rfl, rfl⟩ := sm_p hM
  exact x_retMi (pc := 17) C rfl hW dM_behind_17
def M_behind (N : Nat)  (σ : MS) : Option (Int32 × MS) :=
  cl (M_needs N (44 : Int32) σ) (fun r1 σ2 => (if r1 = 0 then M_behind_17 N  (0 : Int32) σ2 else cl (M_taken N σ2) (fun r3 σ4 => M_behind_17 N  r3 σ4)))
set_option maxHeartbeats 4000000 in
set_option maxRecDepth 100000 in
theorem bM_behind_0 (N : Nat)  {r : Int32} {σ' : MS} (C : CxM p s m args meth c cM_behind 1 (some .int) D dA A)  (σ : MS) (hM : M_behind N   σ = some (r, σ')) (H : Heap) (locs : List Loc) (hW : WdM D dA h A s σ H locs) (ls : Array Slot) (hl : lv_has ls 1 [(0, .ref (h 0))]) : W p l e rm_behind s m args below meth c H locs 0 0 (MQ below (QM D dA h A σ' (some (.int r))) args s 0 0 A) (F0 m 0 ls []) := by
  have hx := C.1.1
  have hb := C.1.2.1
  have hown := C.1.2.2.2.2.1
  have hT := C.1.2.2.2.2.2.1
  unfold M_behind at hM
  refine lv_aload_n (pc := 0) hx hb dM_behind_0 rfl (lv_at hl 0 rfl) ?_
  refine lv_bipush (pc := 1) (v := 44) hx hb dM_behind_1 (by decide) ?_
  obtain ⟨r1, σ2, hr1, hM⟩ := cl_some hM
  refine x_callMi (pc := 3) C hW (kM_needs l D dA h N (44 : Int32) _ hr1) gM_needs_515 ⟨rfl, by decide, by decide, by decide +kernel⟩ ⟨rfl, rfl⟩ ⟨by decide, by decide⟩ ⟨by decide, by decide⟩ (As := [.int (44 : Int32)]) (n := 1) rfl hl.1 rfl (Nat.le_of_ble_eq_true rfl) dM_behind_3 (fun H locs hW => ?_)
  refine lv_if_eq (pc := 6) (tgt := 16) hx hb dM_behind_6 (by decide) (fun hc => ?_) (fun hc => ?_)
  · replace hM := it_t hc hM
    refine lv_iconst (pc := 16) (v := 0) hx hb dM_behind_16 (by decide) ?_
    exact bM_behind_17 N  C  _ _ hM _ _ hW _ (lv_sub hl [] rfl)
  · replace hM := it_f hc hM
    refine lv_aload_n (pc := 9) hx hb dM_behind_9 rfl (lv_at hl 0 rfl) ?_
    obtain ⟨r3, σ4, hr3, hM⟩ := cl_some hM
    refine x_callMi (pc := 10) C hW (kM_taken l D dA h N _ hr3) gM_taken_541 ⟨rfl, by decide, by decide, by decide +kernel⟩ ⟨rfl, rfl⟩ ⟨by decide, by decide⟩ ⟨by decide, by decide⟩ (As := []) (n := 0) rfl hl.1 rfl (Nat.le_of_ble_eq_true rfl) dM_behind_10 (fun H locs hW => ?_)
    refine lv_goto (pc := 13) (tgt := 17) hx hb dM_behind_13 (by decide) ?_
    exact bM_behind_17 N  C  _ _ hM _ _ hW _ (lv_sub hl [] rfl)
theorem kM_behind (l : Launch) (D : va_G) (dA : Nat → ClassId) (h : Nat → Nat) (N : Nat)  (σ : MS) {r : Int32} {σ' : MS} (hM : M_behind N  σ = some (r, σ')) : KM l D dA yM_behind cM_behind 1 (some .int) rm_behind h σ [] (some (.int r)) σ' := x_enterM rfl (Nat.le_of_ble_eq_true rfl) (fun p e s m args below meth c A C hW ls hl => bM_behind_0 N C  σ hM s.heap [] hW ls hl)
def M_bits (x0 : Int32) (x1 : Int32) (x2 : Int32) (x3 : Int32) : Option Int32 :=
  some (((jush x0 x2) &&& (((1 : Int32) <<< (((x1 - x2) + (1 : Int32)) &&& 31)) - (1 : Int32))) <<< (x3 &&& 31))
set_option maxHeartbeats 4000000 in
set_option maxRecDepth 100000 in
theorem bM_bits_0  {r : Int32} (C : CxS RM p s m args meth c cM_bits 4 (some .int)) (x0 : Int32) (x1 : Int32) (x2 : Int32) (x3 : Int32) (hM : M_bits  x0 x1 x2 x3 = some r) (ls : Array Slot) (hl : lv_has ls 4 [(0, .int x0), (1, .int x1), (2, .int x2), (3, .int x3)]) : W p l e rm_bits s m args below meth c s.heap [] 0 0 (MQ below (QS (some (.int r))) args s 0 0 (fun _ => False)) (F0 m 0 ls []) := by
  have hx := C.1
  have hb := C.2.1
  have hown := C.2.2.2.2.1
  have hT := C.2.2.2.2.2.1
  unfold M_bits at hM
  refine lv_iload_n (pc := 0) hx hb dM_bits_0 rfl (lv_at hl 0 rfl) ?_
  refine lv_iload_n (pc := 1) hx hb dM_bits_1 rfl (lv_at hl 2 rfl) ?_
  refine lv_iushr (pc := 2) (v := jush x0 x2) hx hb dM_bits_2 rfl ?_
  refine lv_iconst (pc := 3) (v := 1) hx hb dM_bits_3 (by decide) ?_
  refine lv_iload_n (pc := 4) hx hb dM_bits_4 rfl (lv_at hl 1 rfl) ?_
  refine lv_iload_n (pc := 5) hx hb dM_bits_5 rfl (lv_at hl 2 rfl) ?_
  refine lv_isub (pc := 6) hx hb dM_bits_6 ?_
  refine lv_iconst (pc := 7) (v := 1) hx hb dM_bits_7 (by decide) ?_
  refine lv_iadd (pc := 8) hx hb dM_bits_8 ?_
  refine lv_ishl (pc := 9) hx hb dM_bits_9 ?_
  refine lv_iconst (pc := 10) (v := 1) hx hb dM_bits_10 (by decide) ?_
  refine lv_isub (pc := 11) hx hb dM_bits_11 ?_
  refine lv_iand (pc := 12) hx hb dM_bits_12 ?_
  refine lv_iload_n (pc := 13) hx hb dM_bits_13 rfl (lv_at hl 3 rfl) ?_
  refine lv_ishl (pc := 14) hx hb dM_bits_14 ?_
  obtain rfl := sm_i hM
  exact x_retS (pc := 15) C rfl dM_bits_15
theorem kM_bits (l : Launch) (x0 : Int32) (x1 : Int32) (x2 : Int32) (x3 : Int32) {r : Int32} (hM : M_bits x0 x1 x2 x3 = some r) : KS l yM_bits cM_bits 4 (some .int) rm_bits [.int x0, .int x1, .int x2, .int x3] (some (.int r)) := x_enterS (by decide +kernel) (Nat.le_of_ble_eq_true rfl) (fun p e s m args below meth c C ls hl => bM_bits_0 C x0 x1 x2 x3 hM ls hl)
def M_branchBits (x0 : Int32) : Option Int32 :=
  cr (M_bits  x0 (12 : Int32) (12 : Int32) (31 : Int32)) (fun r1 => cr (M_bits  x0 (10 : Int32) (5 : Int32) (25 : Int32)) (fun r2 => cr (M_bits  x0 (4 : Int32) (1 : Int32) (8 : Int32)) (fun r3 => cr (M_bits  x0 (11 : Int32) (11 : Int32) (7 : Int32)) (fun r4 => some (((r1 ||| r2) ||| r3) ||| r4)))))
set_option maxHeartbeats 4000000 in
set_option maxRecDepth 100000 in
theorem bM_branchBits_0  {r : Int32} (C : CxS RM p s m args meth c cM_branchBits 1 (some .int)) (x0 : Int32) (hM : M_branchBits  x0 = some r) (ls : Array Slot) (hl : lv_has ls 1 [(0, .int x0)]) : W p l e rm_branchBits s m args below meth c s.heap [] 0 0 (MQ below (QS (some (.int r))) args s 0 0 (fun _ => False)) (F0 m 0 ls []) := by
  have hx := C.1
  have hb := C.2.1
  have hown := C.2.2.2.2.1
  have hT := C.2.2.2.2.2.1
  unfold M_branchBits at hM
  refine lv_iload_n (pc := 0) hx hb dM_branchBits_0 rfl (lv_at hl 0 rfl) ?_
  refine lv_bipush (pc := 1) (v := 12) hx hb dM_branchBits_1 (by decide) ?_
  refine lv_bipush (pc := 3) (v := 12) hx hb dM_branchBits_3 (by decide) ?_
  refine lv_bipush (pc := 5) (v := 31) hx hb dM_branchBits_5 (by decide) ?_
  obtain ⟨r1, hr1, hM⟩ := cr_some hM
  refine x_callSi (pc := 7) C (kM_bits l  x0 (12 : Int32) (12 : Int32) (31 : Int32) hr1) gM_bits_559 ⟨rfl, by decide, by decide, by decide +kernel⟩ ⟨rfl, rfl⟩ ⟨by decide, by decide⟩ ⟨by decide, by decide⟩ (As := [.int x0, .int (12 : Int32), .int (12 : Int32), .int (31 : Int32)]) (n := 4) rfl hl.1 rfl (Nat.le_of_ble_eq_true rfl) dM_branchBits_7 ?_
  refine lv_iload_n (pc := 10) hx hb dM_branchBits_10 rfl (lv_at hl 0 rfl) ?_
  refine lv_bipush (pc := 11) (v := 10) hx hb dM_branchBits_11 (by decide) ?_
  refine lv_iconst (pc := 13) (v := 5) hx hb dM_branchBits_13 (by decide) ?_
  refine lv_bipush (pc := 14) (v := 25) hx hb dM_branchBits_14 (by decide) ?_
  obtain ⟨r2, hr2, hM⟩ := cr_some hM
  refine x_callSi (pc := 16) C (kM_bits l  x0 (10 : Int32) (5 : Int32) (25 : Int32) hr2) gM_bits_559 ⟨rfl, by decide, by decide, by decide +kernel⟩ ⟨rfl, rfl⟩ ⟨by decide, by decide⟩ ⟨by decide, by decide⟩ (As := [.int x0, .int (10 : Int32), .int (5 : Int32), .int (25 : Int32)]) (n := 4) rfl hl.1 rfl (Nat.le_of_ble_eq_true rfl) dM_branchBits_16 ?_
  refine lv_ior (pc := 19) hx hb dM_branchBits_19 ?_
  refine lv_iload_n (pc := 20) hx hb dM_branchBits_20 rfl (lv_at hl 0 rfl) ?_
  refine lv_iconst (pc := 21) (v := 4) hx hb dM_branchBits_21 (by decide) ?_
  refine lv_iconst (pc := 22) (v := 1) hx hb dM_branchBits_22 (by decide) ?_
  refine lv_bipush (pc := 23) (v := 8) hx hb dM_branchBits_23 (by decide) ?_
  obtain ⟨r3, hr3, hM⟩ := cr_some hM
  refine x_callSi (pc := 25) C (kM_bits l  x0 (4 : Int32) (1 : Int32) (8 : Int32) hr3) gM_bits_559 ⟨rfl, by decide, by decide, by decide +kernel⟩ ⟨rfl, rfl⟩ ⟨by decide, by decide⟩ ⟨by decide, by decide⟩ (As := [.int x0, .int (4 : Int32), .int (1 : Int32), .int (8 : Int32)]) (n := 4) rfl hl.1 rfl (Nat.le_of_ble_eq_true rfl) dM_branchBits_25 ?_
  refine lv_ior (pc := 28) hx hb dM_branchBits_28 ?_
  refine lv_iload_n (pc := 29) hx hb dM_branchBits_29 rfl (lv_at hl 0 rfl) ?_
  refine lv_bipush (pc := 30) (v := 11) hx hb dM_branchBits_30 (by decide) ?_
  refine lv_bipush (pc := 32) (v := 11) hx hb dM_branchBits_32 (by decide) ?_
  refine lv_bipush (pc := 34) (v := 7) hx hb dM_branchBits_34 (by decide) ?_
  obtain ⟨r4, hr4, hM⟩ := cr_some hM
  refine x_callSi (pc := 36) C (kM_bits l  x0 (11 : Int32) (11 : Int32) (7 : Int32) hr4) gM_bits_559 ⟨rfl, by decide, by decide, by decide +kernel⟩ ⟨rfl, rfl⟩ ⟨by decide, by decide⟩ ⟨by decide, by decide⟩ (As := [.int x0, .int (11 : Int32), .int (11 : Int32), .int (7 : Int32)]) (n := 4) rfl hl.1 rfl (Nat.le_of_ble_eq_true rfl) dM_branchBits_36 ?_
  refine lv_ior (pc := 39) hx hb dM_branchBits_39 ?_
  obtain rfl := sm_i hM
  exact x_retS (pc := 40) C rfl dM_branchBits_40
theorem kM_branchBits (l : Launch) (x0 : Int32) {r : Int32} (hM : M_branchBits x0 = some r) : KS l yM_branchBits cM_branchBits 1 (some .int) rm_branchBits [.int x0] (some (.int r)) := x_enterS (by decide +kernel) (Nat.le_of_ble_eq_true rfl) (fun p e s m args below meth c C ls hl => bM_branchBits_0 C x0 hM ls hl)
def M_put_28  (σ : MS) : Option (Int32 × MS) :=
  bnd (sF σ 20 ((σ.1 20) + (1 : Int32))) (fun σ1 => some ((0 : Int32), σ1))
set_option maxHeartbeats 4000000 in
set_option maxRecDepth 100000 in
theorem bM_put_28  {r : Int32} {σ' : MS} (C : CxM p s m args meth c cM_put 2 none D dA A)  (σ : MS) (hM : M_put_28   σ = some (r, σ')) (H : Heap) (locs : List Loc) (hW : WdM D dA h A s σ H locs) (ls : Array Slot) (hl : lv_has ls 2 [(0, .ref (h 0))]) : W p l e rm_put s m args below meth c H locs 0 0 (MQ below (QM D dA h A σ' none) args s 0 0 A) (F0 m 28 ls []) := by
  have hx := C.1.1
  have hb := C.1.2.1
  have hown := C.1.2.2.2.2.1
  have hT := C.1.2.2.2.2.2.1
  unfold M_put_28 at hM
  refine lv_aload_n (pc := 28) hx hb dM_put_28 rfl (lv_at hl 0 rfl) ?_
  refine lv_dup (pc := 29) hx hb dM_put_29 rfl ?_
  refine gM (pc := 30) C hW 30 (by decide) q_1687 rfl rfl dM_put_30 ?_
  refine lv_iconst (pc := 33) (v := 1) hx hb dM_put_33 (by decide) ?_
  refine lv_iadd (pc := 34) hx hb dM_put_34 ?_
  refine pM (pc := 35) (ty := .int) C hW 30 20 (by decide) q_1687 rfl rfl (by decide +kernel) rfl rfl (st_count dA h _ _) dM_put_35 (fun H locs hW => ?_)
  obtain ⟨σ1, eσ1, hM⟩ := bnd_some hM
  rw [← eσ1] at hW
  obtain ⟨rfl, rfl⟩ := sm_p hM
  exact x_retMv (pc := 38) C rfl hW dM_put_38
def M_put (x1 : Int32) (σ : MS) : Option (Int32 × MS) :=
  (if (σ.1 17) = (3 : Int32) then (if (σ.1 20) = (σ.1 21) then bnd (sF σ 22 (x1 &&& (255 : Int32))) (fun σ1 => M_put_28  σ1) else M_put_28  σ) else M_put_28  σ)
set_option maxHeartbeats 4000000 in
set_option maxRecDepth 100000 in
theorem bM_put_0  {r : Int32} {σ' : MS} (C : CxM p s m args meth c cM_put 2 none D dA A) (x1 : Int32) (σ : MS) (hM : M_put  x1 σ = some (r, σ')) (H : Heap) (locs : List Loc) (hW : WdM D dA h A s σ H locs) (ls : Array Slot) (hl : lv_has ls 2 [(0, .ref (h 0)), (1, .int x1)]) : W p l e rm_put s m args below meth c H locs 0 0 (MQ below (QM D dA h A σ' none) args s 0 0 A) (F0 m 0 ls []) := by
  have hx := C.1.1
  have hb := C.1.2.1
  have hown := C.1.2.2.2.2.1
  have hT := C.1.2.2.2.2.2.1
  unfold M_put at hM
  refine lv_aload_n (pc := 0) hx hb dM_put_0 rfl (lv_at hl 0 rfl) ?_
  refine gM (pc := 1) C hW 27 (by decide) q_1684 rfl rfl dM_put_1 ?_
  refine lv_iconst (pc := 4) (v := 3) hx hb dM_put_4 (by decide) ?_
  refine lv_icmp_ne (pc := 5) (tgt := 28) hx hb dM_put_5 (by decide) (fun hc => ?_) (fun hc => ?_)
  · replace hM := it_f hc hM
    exact bM_put_28  C   _ hM _ _ hW _ (lv_sub hl [0] rfl)
  · replace hM := it_t hc hM
    refine lv_aload_n (pc := 8) hx hb dM_put_8 rfl (lv_at hl 0 rfl) ?_
    refine gM (pc := 9) C hW 30 (by decide) q_1687 rfl rfl dM_put_9 ?_
    refine lv_aload_n (pc := 12) hx hb dM_put_12 rfl (lv_at hl 0 rfl) ?_
    refine gM (pc := 13) C hW 31 (by decide) q_1688 rfl rfl dM_put_13 ?_
    refine lv_icmp_ne (pc := 16) (tgt := 28) hx hb dM_put_16 (by decide) (fun hc => ?_) (fun hc => ?_)
    · replace hM := it_f hc hM
      exact bM_put_28  C   _ hM _ _ hW _ (lv_sub hl [0] rfl)
    · replace hM := it_t hc hM
      refine lv_aload_n (pc := 19) hx hb dM_put_19 rfl (lv_at hl 0 rfl) ?_
      refine lv_iload_n (pc := 20) hx hb dM_put_20 rfl (lv_at hl 1 rfl) ?_
      refine lv_sipush (pc := 21) (v := 255) hx hb dM_put_21 (by decide) ?_
      refine lv_iand (pc := 24) hx hb dM_put_24 ?_
      refine pM (pc := 25) (ty := .int) C hW 32 22 (by decide) q_1689 rfl rfl (by decide +kernel) rfl rfl (st_got dA h _ _) dM_put_25 (fun H locs hW => ?_)
      obtain ⟨σ1, eσ1, hM⟩ := bnd_some hM
      rw [← eσ1] at hW
      exact bM_put_28  C   _ hM _ _ hW _ (lv_sub hl [0] rfl)
theorem kM_put (l : Launch) (D : va_G) (dA : Nat → ClassId) (h : Nat → Nat) (x1 : Int32) (σ : MS) {r : Int32} {σ' : MS} (hM : M_put x1 σ = some (r, σ')) : KM l D dA yM_put cM_put 2 none rm_put h σ [.int x1] none σ' := x_enterM rfl (Nat.le_of_ble_eq_true rfl) (fun p e s m args below meth c A C hW ls hl => bM_put_0 C x1 σ hM s.heap [] hW ls hl)
def M_half (x1 : Int32) (σ : MS) : Option (Int32 × MS) :=
  cl (M_put  x1 σ) (fun r1 σ2 => cl (M_put  (x1 >>> ((8 : Int32) &&& 31)) σ2) (fun r3 σ4 => some ((0 : Int32), σ4)))
set_option maxHeartbeats 4000000 in
set_option maxRecDepth 100000 in
theorem bM_half_0  {r : Int32} {σ' : MS} (C : CxM p s m args meth c cM_half 2 none D dA A) (x1 : Int32) (σ : MS) (hM : M_half  x1 σ = some (r, σ')) (H : Heap) (locs : List Loc) (hW : WdM D dA h A s σ H locs) (ls : Array Slot) (hl : lv_has ls 2 [(0, .ref (h 0)), (1, .int x1)]) : W p l e rm_half s m args below meth c H locs 0 0 (MQ below (QM D dA h A σ' none) args s 0 0 A) (F0 m 0 ls []) := by
  have hx := C.1.1
  have hb := C.1.2.1
  have hown := C.1.2.2.2.2.1
  have hT := C.1.2.2.2.2.2.1
  unfold M_half at hM
  refine lv_aload_n (pc := 0) hx hb dM_half_0 rfl (lv_at hl 0 rfl) ?_
  refine lv_iload_n (pc := 1) hx hb dM_half_1 rfl (lv_at hl 1 rfl) ?_
  obtain ⟨r1, σ2, hr1, hM⟩ := cl_some hM
  refine x_callMv (pc := 2) C hW (kM_put l D dA h  x1 _ hr1) gM_put_553 ⟨rfl, by decide, by decide, by decide +kernel⟩ ⟨rfl, rfl⟩ ⟨by decide, by decide⟩ ⟨by decide, by decide⟩ (As := [.int x1]) (n := 1) rfl hl.1 rfl (Nat.le_of_ble_eq_true rfl) dM_half_2 (fun H locs hW => ?_)
  refine lv_aload_n (pc := 5) hx hb dM_half_5 rfl (lv_at hl 0 rfl) ?_
  refine lv_iload_n (pc := 6) hx hb dM_half_6 rfl (lv_at hl 1 rfl) ?_
  refine lv_bipush (pc := 7) (v := 8) hx hb dM_half_7 (by decide) ?_
  refine lv_ishr (pc := 9) hx hb dM_half_9 ?_
  obtain ⟨r3, σ4, hr3, hM⟩ := cl_some hM
  refine x_callMv (pc := 10) C hW (kM_put l D dA h  (x1 >>> ((8 : Int32) &&& 31)) _ hr3) gM_put_553 ⟨rfl, by decide, by decide, by decide +kernel⟩ ⟨rfl, rfl⟩ ⟨by decide, by decide⟩ ⟨by decide, by decide⟩ (As := [.int (x1 >>> ((8 : Int32) &&& 31))]) (n := 1) rfl hl.1 rfl (Nat.le_of_ble_eq_true rfl) dM_half_10 (fun H locs hW => ?_)
  obtain ⟨rfl, rfl⟩ := sm_p hM
  exact x_retMv (pc := 13) C rfl hW dM_half_13
theorem kM_half (l : Launch) (D : va_G) (dA : Nat → ClassId) (h : Nat → Nat) (x1 : Int32) (σ : MS) {r : Int32} {σ' : MS} (hM : M_half x1 σ = some (r, σ')) : KM l D dA yM_half cM_half 2 none rm_half h σ [.int x1] none σ' := x_enterM rfl (Nat.le_of_ble_eq_true rfl) (fun p e s m args below meth c A C hW ls hl => bM_half_0 C x1 σ hM s.heap [] hW ls hl)
def M_jumpBits (x0 : Int32) : Option Int32 :=
  cr (M_bits  x0 (20 : Int32) (20 : Int32) (31 : Int32)) (fun r1 => cr (M_bits  x0 (10 : Int32) (1 : Int32) (21 : Int32)) (fun r2 => cr (M_bits  x0 (11 : Int32) (11 : Int32) (20 : Int32)) (fun r3 => cr (M_bits  x0 (19 : Int32) (12 : Int32) (12 : Int32)) (fun r4 => some (((r1 ||| r2) ||| r3) ||| r4)))))
set_option maxHeartbeats 4000000 in
set_option maxRecDepth 100000 in
theorem bM_jumpBits_0  {r : Int32} (C : CxS RM p s m args meth c cM_jumpBits 1 (some .int)) (x0 : Int32) (hM : M_jumpBits  x0 = some r) (ls : Array Slot) (hl : lv_has ls 1 [(0, .int x0)]) : W p l e rm_jumpBits s m args below meth c s.heap [] 0 0 (MQ below (QS (some (.int r))) args s 0 0 (fun _ => False)) (F0 m 0 ls []) := by
  have hx := C.1
  have hb := C.2.1
  have hown := C.2.2.2.2.1
  have hT := C.2.2.2.2.2.1
  unfold M_jumpBits at hM
  refine lv_iload_n (pc := 0) hx hb dM_jumpBits_0 rfl (lv_at hl 0 rfl) ?_
  refine lv_bipush (pc := 1) (v := 20) hx hb dM_jumpBits_1 (by decide) ?_
  refine lv_bipush (pc := 3) (v := 20) hx hb dM_jumpBits_3 (by decide) ?_
  refine lv_bipush (pc := 5) (v := 31) hx hb dM_jumpBits_5 (by decide) ?_
  obtain ⟨r1, hr1, hM⟩ := cr_some hM
  refine x_callSi (pc := 7) C (kM_bits l  x0 (20 : Int32) (20 : Int32) (31 : Int32) hr1) gM_bits_559 ⟨rfl, by decide, by decide, by decide +kernel⟩ ⟨rfl, rfl⟩ ⟨by decide, by decide⟩ ⟨by decide, by decide⟩ (As := [.int x0, .int (20 : Int32), .int (20 : Int32), .int (31 : Int32)]) (n := 4) rfl hl.1 rfl (Nat.le_of_ble_eq_true rfl) dM_jumpBits_7 ?_
  refine lv_iload_n (pc := 10) hx hb dM_jumpBits_10 rfl (lv_at hl 0 rfl) ?_
  refine lv_bipush (pc := 11) (v := 10) hx hb dM_jumpBits_11 (by decide) ?_
  refine lv_iconst (pc := 13) (v := 1) hx hb dM_jumpBits_13 (by decide) ?_
  refine lv_bipush (pc := 14) (v := 21) hx hb dM_jumpBits_14 (by decide) ?_
  obtain ⟨r2, hr2, hM⟩ := cr_some hM
  refine x_callSi (pc := 16) C (kM_bits l  x0 (10 : Int32) (1 : Int32) (21 : Int32) hr2) gM_bits_559 ⟨rfl, by decide, by decide, by decide +kernel⟩ ⟨rfl, rfl⟩ ⟨by decide, by decide⟩ ⟨by decide, by decide⟩ (As := [.int x0, .int (10 : Int32), .int (1 : Int32), .int (21 : Int32)]) (n := 4) rfl hl.1 rfl (Nat.le_of_ble_eq_true rfl) dM_jumpBits_16 ?_
  refine lv_ior (pc := 19) hx hb dM_jumpBits_19 ?_
  refine lv_iload_n (pc := 20) hx hb dM_jumpBits_20 rfl (lv_at hl 0 rfl) ?_
  refine lv_bipush (pc := 21) (v := 11) hx hb dM_jumpBits_21 (by decide) ?_
  refine lv_bipush (pc := 23) (v := 11) hx hb dM_jumpBits_23 (by decide) ?_
  refine lv_bipush (pc := 25) (v := 20) hx hb dM_jumpBits_25 (by decide) ?_
  obtain ⟨r3, hr3, hM⟩ := cr_some hM
  refine x_callSi (pc := 27) C (kM_bits l  x0 (11 : Int32) (11 : Int32) (20 : Int32) hr3) gM_bits_559 ⟨rfl, by decide, by decide, by decide +kernel⟩ ⟨rfl, rfl⟩ ⟨by decide, by decide⟩ ⟨by decide, by decide⟩ (As := [.int x0, .int (11 : Int32), .int (11 : Int32), .int (20 : Int32)]) (n := 4) rfl hl.1 rfl (Nat.le_of_ble_eq_true rfl) dM_jumpBits_27 ?_
  refine lv_ior (pc := 30) hx hb dM_jumpBits_30 ?_
  refine lv_iload_n (pc := 31) hx hb dM_jumpBits_31 rfl (lv_at hl 0 rfl) ?_
  refine lv_bipush (pc := 32) (v := 19) hx hb dM_jumpBits_32 (by decide) ?_
  refine lv_bipush (pc := 34) (v := 12) hx hb dM_jumpBits_34 (by decide) ?_
  refine lv_bipush (pc := 36) (v := 12) hx hb dM_jumpBits_36 (by decide) ?_
  obtain ⟨r4, hr4, hM⟩ := cr_some hM
  refine x_callSi (pc := 38) C (kM_bits l  x0 (19 : Int32) (12 : Int32) (12 : Int32) hr4) gM_bits_559 ⟨rfl, by decide, by decide, by decide +kernel⟩ ⟨rfl, rfl⟩ ⟨by decide, by decide⟩ ⟨by decide, by decide⟩ (As := [.int x0, .int (19 : Int32), .int (12 : Int32), .int (12 : Int32)]) (n := 4) rfl hl.1 rfl (Nat.le_of_ble_eq_true rfl) dM_jumpBits_38 ?_
  refine lv_ior (pc := 41) hx hb dM_jumpBits_41 ?_
  obtain rfl := sm_i hM
  exact x_retS (pc := 42) C rfl dM_jumpBits_42
theorem kM_jumpBits (l : Launch) (x0 : Int32) {r : Int32} (hM : M_jumpBits x0 = some r) : KS l yM_jumpBits cM_jumpBits 1 (some .int) rm_jumpBits [.int x0] (some (.int r)) := x_enterS (by decide +kernel) (Nat.le_of_ble_eq_true rfl) (fun p e s m args below meth c C ls hl => bM_jumpBits_0 C x0 hM ls hl)
def M_level  (σ : MS) : Option Int32 :=
  gd (inB (σ.1 18) 1030) (some (((σ.2 2 (σ.1 18).toNatClampNeg) >>> ((13 : Int32) &&& 31)) &&& (3 : Int32)))
set_option maxHeartbeats 4000000 in
set_option maxRecDepth 100000 in
theorem bM_level_0  {r : Int32} (C : CxM p s m args meth c cM_level 1 (some .int) D dA A)  (σ : MS) (hM : M_level   σ = some r) (hW : WdM D dA h A s σ s.heap []) (ls : Array Slot) (hl : lv_has ls 1 [(0, .ref (h 0))]) : W p l e rm_level s m args below meth c s.heap [] 0 0 (MQ below (QS (some (.int r))) args s 0 0 (fun _ => False)) (F0 m 0 ls []) := by
  have hx := C.1.1
  have hb := C.1.2.1
  have hown := C.1.2.2.2.2.1
  have hT := C.1.2.2.2.2.2.1
  unfold M_level at hM
  refine lv_aload_n (pc := 0) hx hb dM_level_0 rfl (lv_at hl 0 rfl) ?_
  refine gM (pc := 1) C hW 10 (by decide) q_1667 rfl rfl dM_level_1 ?_
  refine lv_aload_n (pc := 4) hx hb dM_level_4 rfl (lv_at hl 0 rfl) ?_
  refine gM (pc := 5) C hW 28 (by decide) q_1685 rfl rfl dM_level_5 ?_
  obtain ⟨hg1, hM⟩ := gd_some hM
  refine x_ldI (pc := 8) C hW 6 rfl hg1 dM_level_8 ?_
  refine lv_bipush (pc := 9) (v := 13) hx hb dM_level_9 (by decide) ?_
  refine lv_ishr (pc := 11) hx hb dM_level_11 ?_
  refine lv_iconst (pc := 12) (v := 3) hx hb dM_level_12 (by decide) ?_
  refine lv_iand (pc := 13) hx hb dM_level_13 ?_
  obtain rfl := sm_i hM
  exact x_retS (pc := 14) C.1 rfl dM_level_14
theorem kM_level (l : Launch) (D : va_G) (dA : Nat → ClassId) (h : Nat → Nat)  (σ : MS) {r : Int32} (hM : M_level  σ = some r) : KR l D dA yM_level cM_level 1 (some .int) rm_level h σ [] (some (.int r)) := x_enterR rfl (Nat.le_of_ble_eq_true rfl) (fun p e s m args below meth c A C hW ls hl => bM_level_0 C  σ hM hW ls hl)
def M_shortBranch (x0 : Int32) : Option Int32 :=
  cr (M_bits  x0 (8 : Int32) (8 : Int32) (12 : Int32)) (fun r1 => cr (M_bits  x0 (4 : Int32) (3 : Int32) (10 : Int32)) (fun r2 => cr (M_bits  x0 (7 : Int32) (6 : Int32) (5 : Int32)) (fun r3 => cr (M_bits  x0 (2 : Int32) (1 : Int32) (3 : Int32)) (fun r4 => cr (M_bits  x0 (5 : Int32) (5 : Int32) (2 : Int32)) (fun r5 => some ((((r1 ||| r2) ||| r3) ||| r4) ||| r5))))))
set_option maxHeartbeats 4000000 in
set_option maxRecDepth 100000 in
theorem bM_shortBranch_0  {r : Int32} (C : CxS RM p s m args meth c cM_shortBranch 1 (some .int)) (x0 : Int32) (hM : M_shortBranch  x0 = some r) (ls : Array Slot) (hl : lv_has ls 1 [(0, .int x0)]) : W p l e rm_shortBranch s m args below meth c s.heap [] 0 0 (MQ below (QS (some (.int r))) args s 0 0 (fun _ => False)) (F0 m 0 ls []) := by
  have hx := C.1
  have hb := C.2.1
  have hown := C.2.2.2.2.1
  have hT := C.2.2.2.2.2.1
  unfold M_shortBranch at hM
  refine lv_iload_n (pc := 0) hx hb dM_shortBranch_0 rfl (lv_at hl 0 rfl) ?_
  refine lv_bipush (pc := 1) (v := 8) hx hb dM_shortBranch_1 (by decide) ?_
  refine lv_bipush (pc := 3) (v := 8) hx hb dM_shortBranch_3 (by decide) ?_
  refine lv_bipush (pc := 5) (v := 12) hx hb dM_shortBranch_5 (by decide) ?_
  obtain ⟨r1, hr1, hM⟩ := cr_some hM
  refine x_callSi (pc := 7) C (kM_bits l  x0 (8 : Int32) (8 : Int32) (12 : Int32) hr1) gM_bits_559 ⟨rfl, by decide, by decide, by decide +kernel⟩ ⟨rfl, rfl⟩ ⟨by decide, by decide⟩ ⟨by decide, by decide⟩ (As := [.int x0, .int (8 : Int32), .int (8 : Int32), .int (12 : Int32)]) (n := 4) rfl hl.1 rfl (Nat.le_of_ble_eq_true rfl) dM_shortBranch_7 ?_
  refine lv_iload_n (pc := 10) hx hb dM_shortBranch_10 rfl (lv_at hl 0 rfl) ?_
  refine lv_iconst (pc := 11) (v := 4) hx hb dM_shortBranch_11 (by decide) ?_
  refine lv_iconst (pc := 12) (v := 3) hx hb dM_shortBranch_12 (by decide) ?_
  refine lv_bipush (pc := 13) (v := 10) hx hb dM_shortBranch_13 (by decide) ?_
  obtain ⟨r2, hr2, hM⟩ := cr_some hM
  refine x_callSi (pc := 15) C (kM_bits l  x0 (4 : Int32) (3 : Int32) (10 : Int32) hr2) gM_bits_559 ⟨rfl, by decide, by decide, by decide +kernel⟩ ⟨rfl, rfl⟩ ⟨by decide, by decide⟩ ⟨by decide, by decide⟩ (As := [.int x0, .int (4 : Int32), .int (3 : Int32), .int (10 : Int32)]) (n := 4) rfl hl.1 rfl (Nat.le_of_ble_eq_true rfl) dM_shortBranch_15 ?_
  refine lv_ior (pc := 18) hx hb dM_shortBranch_18 ?_
  refine lv_iload_n (pc := 19) hx hb dM_shortBranch_19 rfl (lv_at hl 0 rfl) ?_
  refine lv_bipush (pc := 20) (v := 7) hx hb dM_shortBranch_20 (by decide) ?_
  refine lv_bipush (pc := 22) (v := 6) hx hb dM_shortBranch_22 (by decide) ?_
  refine lv_iconst (pc := 24) (v := 5) hx hb dM_shortBranch_24 (by decide) ?_
  obtain ⟨r3, hr3, hM⟩ := cr_some hM
  refine x_callSi (pc := 25) C (kM_bits l  x0 (7 : Int32) (6 : Int32) (5 : Int32) hr3) gM_bits_559 ⟨rfl, by decide, by decide, by decide +kernel⟩ ⟨rfl, rfl⟩ ⟨by decide, by decide⟩ ⟨by decide, by decide⟩ (As := [.int x0, .int (7 : Int32), .int (6 : Int32), .int (5 : Int32)]) (n := 4) rfl hl.1 rfl (Nat.le_of_ble_eq_true rfl) dM_shortBranch_25 ?_
  refine lv_ior (pc := 28) hx hb dM_shortBranch_28 ?_
  refine lv_iload_n (pc := 29) hx hb dM_shortBranch_29 rfl (lv_at hl 0 rfl) ?_
  refine lv_iconst (pc := 30) (v := 2) hx hb dM_shortBranch_30 (by decide) ?_
  refine lv_iconst (pc := 31) (v := 1) hx hb dM_shortBranch_31 (by decide) ?_
  refine lv_iconst (pc := 32) (v := 3) hx hb dM_shortBranch_32 (by decide) ?_
  obtain ⟨r4, hr4, hM⟩ := cr_some hM
  refine x_callSi (pc := 33) C (kM_bits l  x0 (2 : Int32) (1 : Int32) (3 : Int32) hr4) gM_bits_559 ⟨rfl, by decide, by decide, by decide +kernel⟩ ⟨rfl, rfl⟩ ⟨by decide, by decide⟩ ⟨by decide, by decide⟩ (As := [.int x0, .int (2 : Int32), .int (1 : Int32), .int (3 : Int32)]) (n := 4) rfl hl.1 rfl (Nat.le_of_ble_eq_true rfl) dM_shortBranch_33 ?_
  refine lv_ior (pc := 36) hx hb dM_shortBranch_36 ?_
  refine lv_iload_n (pc := 37) hx hb dM_shortBranch_37 rfl (lv_at hl 0 rfl) ?_
  refine lv_iconst (pc := 38) (v := 5) hx hb dM_shortBranch_38 (by decide) ?_
  refine lv_iconst (pc := 39) (v := 5) hx hb dM_shortBranch_39 (by decide) ?_
  refine lv_iconst (pc := 40) (v := 2) hx hb dM_shortBranch_40 (by decide) ?_
  obtain ⟨r5, hr5, hM⟩ := cr_some hM
  refine x_callSi (pc := 41) C (kM_bits l  x0 (5 : Int32) (5 : Int32) (2 : Int32) hr5) gM_bits_559 ⟨rfl, by decide, by decide, by decide +kernel⟩ ⟨rfl, rfl⟩ ⟨by decide, by decide⟩ ⟨by decide, by decide⟩ (As := [.int x0, .int (5 : Int32), .int (5 : Int32), .int (2 : Int32)]) (n := 4) rfl hl.1 rfl (Nat.le_of_ble_eq_true rfl) dM_shortBranch_41 ?_
  refine lv_ior (pc := 44) hx hb dM_shortBranch_44 ?_
  obtain rfl := sm_i hM
  exact x_retS (pc := 45) C rfl dM_shortBranch_45
theorem kM_shortBranch (l : Launch) (x0 : Int32) {r : Int32} (hM : M_shortBranch x0 = some r) : KS l yM_shortBranch cM_shortBranch 1 (some .int) rm_shortBranch [.int x0] (some (.int r)) := x_enterS (by decide +kernel) (Nat.le_of_ble_eq_true rfl) (fun p e s m args below meth c C ls hl => bM_shortBranch_0 C x0 hM ls hl)
def M_bind_124 (N : Nat)  (σ : MS) : Option (Int32 × MS) :=
  some ((0 : Int32), σ)
set_option maxHeartbeats 4000000 in
set_option maxRecDepth 100000 in
theorem bM_bind_124 (N : Nat)  {r : Int32} {σ' : MS} (C : CxM p s m args meth c cM_bind 4 none D dA A)  (σ : MS) (hM : M_bind_124 N   σ = some (r, σ')) (H : Heap) (locs : List Loc) (hW : WdM D dA h A s σ H locs) (ls : Array Slot) (hl : lv_has ls 4 []) : W p l e rm_bind s m args below meth c H locs 0 0 (MQ below (QM D dA h A σ' none) args s 0 0 A) (F0 m 124 ls []) := by
  have hx := C.1.1
  have hb := C.1.2.1
  have hown := C.1.2.2.2.2.1
  have hT := C.1.2.2.2.2.2.1
  unfold M_bind_124 at hM
  obtain ⟨rfl, rfl⟩ := sm_p hM
  exact x_retMv (pc := 124) C rfl hW dM_bind_124
def M_bind_110 (N : Nat) (rec2 : Int32 → MS → Option (Int32 × MS)) (x1 : Int32) (t1 : Int32) (t2 : Int32) (σ : MS) : Option (Int32 × MS) :=
  gd (inB t1 4100) (bnd (sA σ 7 t1.toNatClampNeg t2) (fun σ2 => bnd (sF σ2 27 ((σ2.1 27) - (1 : Int32))) (fun σ3 => rec2 x1 σ3)))
set_option maxHeartbeats 4000000 in
set_option maxRecDepth 100000 in
theorem bM_bind_110 (N : Nat) (rec2 : Int32 → MS → Option (Int32 × MS)) {r : Int32} {σ' : MS} (C : CxM p s m args meth c cM_bind 4 none D dA A) (hrec2 : ∀ (x1 : Int32) (σ : MS), rec2 x1 σ = some (r, σ') → ∀ (H : Heap) (locs : List Loc), WdM D dA h A s σ H locs → ∀ (ls : Array Slot), lv_has ls 4 [(0, .ref (h 0)), (1, .int x1)] → W p l e rm_bind s m args below meth c H locs 0 0 (MQ below (QM D dA h A σ' none) args s 0 0 A) (F0 m 2 ls [])) (x1 : Int32) (t1 : Int32) (t2 : Int32) (σ : MS) (hM : M_bind_110 N rec2 x1 t1 t2 σ = some (r, σ')) (H : Heap) (locs : List Loc) (hW : WdM D dA h A s σ H locs) (ls : Array Slot) (hl : lv_has ls 4 [(0, .ref (h 0)), (1, .int x1)]) : W p l e rm_bind s m args below meth c H locs 0 0 (MQ below (QM D dA h A σ' none) args s 0 0 A) (F0 m 110 ls [.int t2, .int t1, .ref (h 11)]) := by
  have hx := C.1.1
  have hb := C.1.2.1
  have hown := C.1.2.2.2.2.1
  have hT := C.1.2.2.2.2.2.1
  unfold M_bind_110 at hM
  obtain ⟨hg1, hM⟩ := gd_some hM
  refine x_stI (pc := 110) C hW 11 7 rfl hg1 (sa_pile dA h _ _ _) dM_bind_110 (fun H locs hW => ?_)
  obtain ⟨σ2, eσ2, hM⟩ := bnd_some hM
  rw [← eσ2] at hW
  refine lv_aload_n (pc := 111) hx hb dM_bind_111 rfl (lv_at hl 0 rfl) ?_
  refine lv_dup (pc := 112) hx hb dM_bind_112 rfl ?_
  refine gM (pc := 113) C hW 38 (by decide) q_1695 rfl rfl dM_bind_113 ?_
  refine lv_iconst (pc := 116) (v := 1) hx hb dM_bind_116 (by decide) ?_
  refine lv_isub (pc := 117) hx hb dM_bind_117 ?_
  refine pM (pc := 118) (ty := .int) C hW 38 27 (by decide) q_1695 rfl rfl (by decide +kernel) rfl rfl (st_signs dA h _ _) dM_bind_118 (fun H locs hW => ?_)
  obtain ⟨σ3, eσ3, hM⟩ := bnd_some hM
  rw [← eσ3] at hW
  refine lv_goto (pc := 121) (tgt := 2) hx hb dM_bind_121 (by decide) ?_
  exact hrec2 _ _ hM _ _ hW _ (lv_sub hl [0, 1] rfl)
def M_bind_50 (N : Nat) (rec2 : Int32 → MS → Option (Int32 × MS)) (x2 : Int32) (x3 : Int32) (t0 : Int32) (σ : MS) : Option (Int32 × MS) :=
  (if t0 = 0 then rec2 t0 σ else (if x2 = (2 : Int32) then M_bind_110 N rec2 t0 (σ.1 28) (-x3) σ else (if x2 = (3 : Int32) then M_bind_110 N rec2 t0 (σ.1 28) (x3 ^^^ (-1 : Int32)) σ else (if x2 = (4 : Int32) then M_bind_110 N rec2 t0 (σ.1 28) (jush (x3 + (2048 : Int32)) (12 : Int32)) σ else M_bind_110 N rec2 t0 (σ.1 28) ((x3 <<< ((20 : Int32) &&& 31)) >>> ((20 : Int32) &&& 31)) σ))))
set_option maxHeartbeats 4000000 in
set_option maxRecDepth 100000 in
theorem bM_bind_50 (N : Nat) (rec2 : Int32 → MS → Option (Int32 × MS)) {r : Int32} {σ' : MS} (C : CxM p s m args meth c cM_bind 4 none D dA A) (hrec2 : ∀ (x1 : Int32) (σ : MS), rec2 x1 σ = some (r, σ') → ∀ (H : Heap) (locs : List Loc), WdM D dA h A s σ H locs → ∀ (ls : Array Slot), lv_has ls 4 [(0, .ref (h 0)), (1, .int x1)] → W p l e rm_bind s m args below meth c H locs 0 0 (MQ below (QM D dA h A σ' none) args s 0 0 A) (F0 m 2 ls [])) (x2 : Int32) (x3 : Int32) (t0 : Int32) (σ : MS) (hM : M_bind_50 N rec2 x2 x3 t0 σ = some (r, σ')) (H : Heap) (locs : List Loc) (hW : WdM D dA h A s σ H locs) (ls : Array Slot) (hl : lv_has ls 4 [(0, .ref (h 0)), (2, .int x2), (3, .int x3)]) : W p l e rm_bind s m args below meth c H locs 0 0 (MQ below (QM D dA h A σ' none) args s 0 0 A) (F0 m 50 ls [.int t0]) := by
  have hx := C.1.1
  have hb := C.1.2.1
  have hown := C.1.2.2.2.2.1
  have hT := C.1.2.2.2.2.2.1
  unfold M_bind_50 at hM
  refine lv_istore_n (pc := 50) (lv' := [(1, .int t0), (0, .ref (h 0)), (2, .int x2), (3, .int x3)]) hx hb dM_bind_50 rfl hl (by decide) rfl (fun ls hl => ?_)
  refine lv_iload_n (pc := 51) hx hb dM_bind_51 rfl (lv_at hl 0 rfl) ?_
  refine lv_if_ne (pc := 52) (tgt := 58) hx hb dM_bind_52 (by decide) (fun hc => ?_) (fun hc => ?_)
  · replace hM := it_f hc hM
    refine lv_aload_n (pc := 58) hx hb dM_bind_58 rfl (lv_at hl 1 rfl) ?_
    refine gM (pc := 59) C hW 37 (by decide) q_1694 rfl rfl dM_bind_59 ?_
    refine lv_aload_n (pc := 62) hx hb dM_bind_62 rfl (lv_at hl 1 rfl) ?_
    refine gM (pc := 63) C hW 39 (by decide) q_1696 rfl rfl dM_bind_63 ?_
    refine lv_iload_n (pc := 66) hx hb dM_bind_66 rfl (lv_at hl 2 rfl) ?_
    refine lv_iconst (pc := 67) (v := 2) hx hb dM_bind_67 (by decide) ?_
    refine lv_icmp_ne (pc := 68) (tgt := 76) hx hb dM_bind_68 (by decide) (fun hc => ?_) (fun hc => ?_)
    · replace hM := it_f hc hM
      refine lv_iload_n (pc := 76) hx hb dM_bind_76 rfl (lv_at hl 2 rfl) ?_
      refine lv_iconst (pc := 77) (v := 3) hx hb dM_bind_77 (by decide) ?_
      refine lv_icmp_ne (pc := 78) (tgt := 87) hx hb dM_bind_78 (by decide) (fun hc => ?_) (fun hc => ?_)
      · replace hM := it_f hc hM
        refine lv_iload_n (pc := 87) hx hb dM_bind_87 rfl (lv_at hl 2 rfl) ?_
        refine lv_iconst (pc := 88) (v := 4) hx hb dM_bind_88 (by decide) ?_
        refine lv_icmp_ne (pc := 89) (tgt := 103) hx hb dM_bind_89 (by decide) (fun hc => ?_) (fun hc => ?_)
        · replace hM := it_f hc hM
          refine lv_iload_n (pc := 103) hx hb dM_bind_103 rfl (lv_at hl 3 rfl) ?_
          refine lv_bipush (pc := 104) (v := 20) hx hb dM_bind_104 (by decide) ?_
          refine lv_ishl (pc := 106) hx hb dM_bind_106 ?_
          refine lv_bipush (pc := 107) (v := 20) hx hb dM_bind_107 (by decide) ?_
          refine lv_ishr (pc := 109) hx hb dM_bind_109 ?_
          exact bM_bind_110 N rec2 C hrec2 _ _ _ _ hM _ _ hW _ (lv_sub hl [1, 0] rfl)
        · replace hM := it_t hc hM
          refine lv_iload_n (pc := 92) hx hb dM_bind_92 rfl (lv_at hl 3 rfl) ?_
          refine lv_sipush (pc := 93) (v := 2048) hx hb dM_bind_93 (by decide) ?_
          refine lv_iadd (pc := 96) hx hb dM_bind_96 ?_
          refine lv_bipush (pc := 97) (v := 12) hx hb dM_bind_97 (by decide) ?_
          refine lv_iushr (pc := 99) (v := jush (x3 + (2048 : Int32)) (12 : Int32)) hx hb dM_bind_99 rfl ?_
          refine lv_goto (pc := 100) (tgt := 110) hx hb dM_bind_100 (by decide) ?_
          exact bM_bind_110 N rec2 C hrec2 _ _ _ _ hM _ _ hW _ (lv_sub hl [1, 0] rfl)
      · replace hM := it_t hc hM
        refine lv_iload_n (pc := 81) hx hb dM_bind_81 rfl (lv_at hl 3 rfl) ?_
        refine lv_iconst (pc := 82) (v := -1) hx hb dM_bind_82 (by decide) ?_
        refine lv_ixor (pc := 83) hx hb dM_bind_83 ?_
        refine lv_goto (pc := 84) (tgt := 110) hx hb dM_bind_84 (by decide) ?_
        exact bM_bind_110 N rec2 C hrec2 _ _ _ _ hM _ _ hW _ (lv_sub hl [1, 0] rfl)
    · replace hM := it_t hc hM
      refine lv_iload_n (pc := 71) hx hb dM_bind_71 rfl (lv_at hl 3 rfl) ?_
      refine lv_ineg (pc := 72) hx hb dM_bind_72 ?_
      refine lv_goto (pc := 73) (tgt := 110) hx hb dM_bind_73 (by decide) ?_
      exact bM_bind_110 N rec2 C hrec2 _ _ _ _ hM _ _ hW _ (lv_sub hl [1, 0] rfl)
  · replace hM := it_t hc hM
    refine lv_goto (pc := 55) (tgt := 2) hx hb dM_bind_55 (by decide) ?_
    exact hrec2 _ _ hM _ _ hW _ (lv_sub hl [1, 0] rfl)
def M_bind_49 (N : Nat) (rec2 : Int32 → MS → Option (Int32 × MS)) (x2 : Int32) (x3 : Int32) (σ : MS) : Option (Int32 × MS) :=
  M_bind_50 N rec2 x2 x3 (0 : Int32) σ
set_option maxHeartbeats 4000000 in
set_option maxRecDepth 100000 in
theorem bM_bind_49 (N : Nat) (rec2 : Int32 → MS → Option (Int32 × MS)) {r : Int32} {σ' : MS} (C : CxM p s m args meth c cM_bind 4 none D dA A) (hrec2 : ∀ (x1 : Int32) (σ : MS), rec2 x1 σ = some (r, σ') → ∀ (H : Heap) (locs : List Loc), WdM D dA h A s σ H locs → ∀ (ls : Array Slot), lv_has ls 4 [(0, .ref (h 0)), (1, .int x1)] → W p l e rm_bind s m args below meth c H locs 0 0 (MQ below (QM D dA h A σ' none) args s 0 0 A) (F0 m 2 ls [])) (x2 : Int32) (x3 : Int32) (σ : MS) (hM : M_bind_49 N rec2 x2 x3 σ = some (r, σ')) (H : Heap) (locs : List Loc) (hW : WdM D dA h A s σ H locs) (ls : Array Slot) (hl : lv_has ls 4 [(0, .ref (h 0)), (2, .int x2), (3, .int x3)]) : W p l e rm_bind s m args below meth c H locs 0 0 (MQ below (QM D dA h A σ' none) args s 0 0 A) (F0 m 49 ls []) := by
  have hx := C.1.1
  have hb := C.1.2.1
  have hown := C.1.2.2.2.2.1
  have hT := C.1.2.2.2.2.2.1
  unfold M_bind_49 at hM
  refine lv_iconst (pc := 49) (v := 0) hx hb dM_bind_49 (by decide) ?_
  exact bM_bind_50 N rec2 C hrec2 _ _ _ _ hM _ _ hW _ (lv_sub hl [0, 1, 2] rfl)
def M_bind_2 (N : Nat)  : Nat → Int32 → MS → Option (Int32 × MS)
  | 0 => fun _ _ => none
  | n + 1 => fun x1 σ => (if x1 = 0 then M_bind_124 N  σ else (if (σ.1 27) ≤ 0 then M_bind_124 N  σ else gd (inB ((σ.1 27) - (1 : Int32)) 4100) (bnd (σ.2 7 ((σ.1 27) - (1 : Int32)).toNatClampNeg) (fun y2 => gd (inB (σ.1 28) 4100) ((if y2 ≤ (1 : Int32) then M_bind_49 N (M_bind_2 N  n) y2 (σ.2 7 (σ.1 28).toNatClampNeg) σ else (if (5 : Int32) < y2 then M_bind_49 N (M_bind_2 N  n) y2 (σ.2 7 (σ.1 28).toNatClampNeg) σ else M_bind_50 N (M_bind_2 N  n) y2 (σ.2 7 (σ.1 28).toNatClampNeg) (1 : Int32) σ)))))))
set_option maxHeartbeats 4000000 in
set_option maxRecDepth 100000 in
theorem bM_bind_2 (N : Nat)  {r : Int32} {σ' : MS} (C : CxM p s m args meth c cM_bind 4 none D dA A) : ∀ (n : Nat) (x1 : Int32) (σ : MS), M_bind_2 N  n x1 σ = some (r, σ') → ∀ (H : Heap) (locs : List Loc), WdM D dA h A s σ H locs → ∀ (ls : Array Slot), lv_has ls 4 [(0, .ref (h 0)), (1, .int x1)] → W p l e rm_bind s m args below meth c H locs 0 0 (MQ below (QM D dA h A σ' none) args s 0 0 A) (F0 m 2 ls []) := by
  have hx := C.1.1
  have hb := C.1.2.1
  have hown := C.1.2.2.2.2.1
  have hT := C.1.2.2.2.2.2.1
  intro n
  induction n with
  | zero => intro x1 σ hM; cases hM
  | succ n hrec2 =>
    intro x1 σ hM H locs hW ls hl
    rw [M_bind_2] at hM
    refine lv_iload_n (pc := 2) hx hb dM_bind_2 rfl (lv_at hl 1 rfl) ?_
    refine lv_if_eq (pc := 3) (tgt := 124) hx hb dM_bind_3 (by decide) (fun hc => ?_) (fun hc => ?_)
    · replace hM := it_t hc hM
      exact bM_bind_124 N  C   _ hM _ _ hW _ (lv_sub hl [] rfl)
    · replace hM := it_f hc hM
      refine lv_aload_n (pc := 6) hx hb dM_bind_6 rfl (lv_at hl 0 rfl) ?_
      refine gM (pc := 7) C hW 38 (by decide) q_1695 rfl rfl dM_bind_7 ?_
      refine lv_if_le (pc := 10) (tgt := 124) hx hb dM_bind_10 (by decide) (fun hc => ?_) (fun hc => ?_)
      · replace hM := it_t hc hM
        exact bM_bind_124 N  C   _ hM _ _ hW _ (lv_sub hl [] rfl)
      · replace hM := it_f hc hM
        refine lv_aload_n (pc := 13) hx hb dM_bind_13 rfl (lv_at hl 0 rfl) ?_
        refine gM (pc := 14) C hW 37 (by decide) q_1694 rfl rfl dM_bind_14 ?_
        refine lv_aload_n (pc := 17) hx hb dM_bind_17 rfl (lv_at hl 0 rfl) ?_
        refine gM (pc := 18) C hW 38 (by decide) q_1695 rfl rfl dM_bind_18 ?_
        refine lv_iconst (pc := 21) (v := 1) hx hb dM_bind_21 (by decide) ?_
        refine lv_isub (pc := 22) hx hb dM_bind_22 ?_
        obtain ⟨hg1, hM⟩ := gd_some hM
        refine x_ldI (pc := 23) C hW 11 rfl hg1 dM_bind_23 ?_
        obtain ⟨y2, ey2, hM⟩ := bnd_some hM
        refine x_seti ey2 ?_
        refine lv_istore_n (pc := 24) (lv' := [(2, .int y2), (0, .ref (h 0)), (1, .int x1)]) hx hb dM_bind_24 rfl hl (by decide) rfl (fun ls hl => ?_)
        refine lv_aload_n (pc := 25) hx hb dM_bind_25 rfl (lv_at hl 1 rfl) ?_
        refine gM (pc := 26) C hW 37 (by decide) q_1694 rfl rfl dM_bind_26 ?_
        refine lv_aload_n (pc := 29) hx hb dM_bind_29 rfl (lv_at hl 1 rfl) ?_
        refine gM (pc := 30) C hW 39 (by decide) q_1696 rfl rfl dM_bind_30 ?_
        obtain ⟨hg3, hM⟩ := gd_some hM
        refine x_ldI (pc := 33) C hW 11 rfl hg3 dM_bind_33 ?_
        refine lv_istore_n (pc := 34) (lv' := [(3, .int (σ.2 7 (σ.1 28).toNatClampNeg)), (2, .int y2), (0, .ref (h 0)), (1, .int x1)]) hx hb dM_bind_34 rfl hl (by decide) rfl (fun ls hl => ?_)
        refine lv_iload_n (pc := 35) hx hb dM_bind_35 rfl (lv_at hl 1 rfl) ?_
        refine lv_iconst (pc := 36) (v := 1) hx hb dM_bind_36 (by decide) ?_
        refine lv_icmp_le (pc := 37) (tgt := 49) hx hb dM_bind_37 (by decide) (fun hc => ?_) (fun hc => ?_)
        · replace hM := it_t hc hM
          exact bM_bind_49 N _ C hrec2 _ _ _ hM _ _ hW _ (lv_sub hl [2, 1, 0] rfl)
        · replace hM := it_f hc hM
          refine lv_iload_n (pc := 40) hx hb dM_bind_40 rfl (lv_at hl 1 rfl) ?_
          refine lv_iconst (pc := 41) (v := 5) hx hb dM_bind_41 (by decide) ?_
          refine lv_icmp_gt (pc := 42) (tgt := 49) hx hb dM_bind_42 (by decide) (fun hc => ?_) (fun hc => ?_)
          · replace hM := it_t hc hM
            exact bM_bind_49 N _ C hrec2 _ _ _ hM _ _ hW _ (lv_sub hl [2, 1, 0] rfl)
          · replace hM := it_f hc hM
            refine lv_iconst (pc := 45) (v := 1) hx hb dM_bind_45 (by decide) ?_
            refine lv_goto (pc := 46) (tgt := 50) hx hb dM_bind_46 (by decide) ?_
            exact bM_bind_50 N _ C hrec2 _ _ _ _ hM _ _ hW _ (lv_sub hl [2, 1, 0] rfl)
def M_bind (N : Nat)  (σ : MS) : Option (Int32 × MS) :=
  M_bind_2 N  N (1 : Int32) σ
set_option maxHeartbeats 4000000 in
set_option maxRecDepth 100000 in
theorem bM_bind_0 (N : Nat)  {r : Int32} {σ' : MS} (C : CxM p s m args meth c cM_bind 4 none D dA A)  (σ : MS) (hM : M_bind N   σ = some (r, σ')) (H : Heap) (locs : List Loc) (hW : WdM D dA h A s σ H locs) (ls : Array Slot) (hl : lv_has ls 4 [(0, .ref (h 0))]) : W p l e rm_bind s m args below meth c H locs 0 0 (MQ below (QM D dA h A σ' none) args s 0 0 A) (F0 m 0 ls []) := by
  have hx := C.1.1
  have hb := C.1.2.1
  have hown := C.1.2.2.2.2.1
  have hT := C.1.2.2.2.2.2.1
  unfold M_bind at hM
  refine lv_iconst (pc := 0) (v := 1) hx hb dM_bind_0 (by decide) ?_
  refine lv_istore_n (pc := 1) (lv' := [(1, .int (1 : Int32)), (0, .ref (h 0))]) hx hb dM_bind_1 rfl hl (by decide) rfl (fun ls hl => ?_)
  exact bM_bind_2 N  C  N _ _ hM _ _ hW _ (lv_sub hl [1, 0] rfl)
theorem kM_bind (l : Launch) (D : va_G) (dA : Nat → ClassId) (h : Nat → Nat) (N : Nat)  (σ : MS) {r : Int32} {σ' : MS} (hM : M_bind N  σ = some (r, σ')) : KM l D dA yM_bind cM_bind 4 none rm_bind h σ [] none σ' := x_enterM rfl (Nat.le_of_ble_eq_true rfl) (fun p e s m args below meth c A C hW ls hl => bM_bind_0 N C  σ hM s.heap [] hW ls hl)
def M_worked_157 (t0 : Int32) (σ : MS) : Option (Int32 × MS) :=
  some (t0, σ)
set_option maxHeartbeats 4000000 in
set_option maxRecDepth 100000 in
theorem bM_worked_157  {r : Int32} {σ' : MS} (C : CxM p s m args meth c cM_worked 4 (some .int) D dA A) (t0 : Int32) (σ : MS) (hM : M_worked_157  t0 σ = some (r, σ')) (H : Heap) (locs : List Loc) (hW : WdM D dA h A s σ H locs) (ls : Array Slot) (hl : lv_has ls 4 []) : W p l e rm_worked s m args below meth c H locs 0 0 (MQ below (QM D dA h A σ' (some (.int r))) args s 0 0 A) (F0 m 157 ls [.int t0]) := by
  have hx := C.1.1
  have hb := C.1.2.1
  have hown := C.1.2.2.2.2.1
  have hT := C.1.2.2.2.2.2.1
  unfold M_worked_157 at hM
  obtain ⟨rfl, rfl⟩ := sm_p hM
  exact x_retMi (pc := 157) C rfl hW dM_worked_157
def M_worked_131 (x1 : Int32) (x2 : Int32) (x3 : Int32) (t1 : Int32) (σ : MS) : Option (Int32 × MS) :=
  gd (isB t1) (bnd (sF σ 25 t1) (fun σ2 => (if x3 = 0 then M_worked_157  (0 : Int32) σ2 else (if x1 = (47 : Int32) then gd (nz x3) (M_worked_157  (x2 / x3) σ2) else gd (nz x3) (M_worked_157  (jrem x2 x3) σ2)))))
set_option maxHeartbeats 4000000 in
set_option maxRecDepth 100000 in
theorem bM_worked_131  {r : Int32} {σ' : MS} (C : CxM p s m args meth c cM_worked 4 (some .int) D dA A) (x1 : Int32) (x2 : Int32) (x3 : Int32) (t1 : Int32) (σ : MS) (hM : M_worked_131  x1 x2 x3 t1 σ = some (r, σ')) (H : Heap) (locs : List Loc) (hW : WdM D dA h A s σ H locs) (ls : Array Slot) (hl : lv_has ls 4 [(1, .int x1), (2, .int x2), (3, .int x3)]) : W p l e rm_worked s m args below meth c H locs 0 0 (MQ below (QM D dA h A σ' (some (.int r))) args s 0 0 A) (F0 m 131 ls [.int t1, .ref (h 0)]) := by
  have hx := C.1.1
  have hb := C.1.2.1
  have hown := C.1.2.2.2.2.1
  have hT := C.1.2.2.2.2.2.1
  unfold M_worked_131 at hM
  obtain ⟨hg1, hM⟩ := gd_some hM
  refine pM (pc := 131) (ty := .boolean) C hW 35 25 (by decide) q_1692 rfl rfl (by decide +kernel) (isB_n hg1) (isB_f hg1) (st_divided dA h _ _) dM_worked_131 (fun H locs hW => ?_)
  obtain ⟨σ2, eσ2, hM⟩ := bnd_some hM
  rw [← eσ2] at hW
  refine lv_iload_n (pc := 134) hx hb dM_worked_134 rfl (lv_at hl 2 rfl) ?_
  refine lv_if_ne (pc := 135) (tgt := 142) hx hb dM_worked_135 (by decide) (fun hc => ?_) (fun hc => ?_)
  · replace hM := it_f hc hM
    refine lv_iload_n (pc := 142) hx hb dM_worked_142 rfl (lv_at hl 0 rfl) ?_
    refine lv_bipush (pc := 143) (v := 47) hx hb dM_worked_143 (by decide) ?_
    refine lv_icmp_ne (pc := 145) (tgt := 154) hx hb dM_worked_145 (by decide) (fun hc => ?_) (fun hc => ?_)
    · replace hM := it_f hc hM
      refine lv_iload_n (pc := 154) hx hb dM_worked_154 rfl (lv_at hl 1 rfl) ?_
      refine lv_iload_n (pc := 155) hx hb dM_worked_155 rfl (lv_at hl 2 rfl) ?_
      obtain ⟨hg3, hM⟩ := gd_some hM
      refine lv_irem (pc := 156) hx hb dM_worked_156 (nz_ne hg3) ?_
      exact bM_worked_157  C  _ _ hM _ _ hW _ (lv_sub hl [] rfl)
    · replace hM := it_t hc hM
      refine lv_iload_n (pc := 148) hx hb dM_worked_148 rfl (lv_at hl 1 rfl) ?_
      refine lv_iload_n (pc := 149) hx hb dM_worked_149 rfl (lv_at hl 2 rfl) ?_
      obtain ⟨hg4, hM⟩ := gd_some hM
      refine lv_idiv (pc := 150) hx hb dM_worked_150 (nz_ne hg4) ?_
      refine lv_goto (pc := 151) (tgt := 157) hx hb dM_worked_151 (by decide) ?_
      exact bM_worked_157  C  _ _ hM _ _ hW _ (lv_sub hl [] rfl)
  · replace hM := it_t hc hM
    refine lv_iconst (pc := 138) (v := 0) hx hb dM_worked_138 (by decide) ?_
    refine lv_goto (pc := 139) (tgt := 157) hx hb dM_worked_139 (by decide) ?_
    exact bM_worked_157  C  _ _ hM _ _ hW _ (lv_sub hl [] rfl)
def M_worked_126 (x1 : Int32) (x2 : Int32) (x3 : Int32) (σ : MS) : Option (Int32 × MS) :=
  M_worked_131  x1 x2 x3 (1 : Int32) σ
set_option maxHeartbeats 4000000 in
set_option maxRecDepth 100000 in
theorem bM_worked_126  {r : Int32} {σ' : MS} (C : CxM p s m args meth c cM_worked 4 (some .int) D dA A) (x1 : Int32) (x2 : Int32) (x3 : Int32) (σ : MS) (hM : M_worked_126  x1 x2 x3 σ = some (r, σ')) (H : Heap) (locs : List Loc) (hW : WdM D dA h A s σ H locs) (ls : Array Slot) (hl : lv_has ls 4 [(1, .int x1), (2, .int x2), (3, .int x3)]) : W p l e rm_worked s m args below meth c H locs 0 0 (MQ below (QM D dA h A σ' (some (.int r))) args s 0 0 A) (F0 m 126 ls [.ref (h 0)]) := by
  have hx := C.1.1
  have hb := C.1.2.1
  have hown := C.1.2.2.2.2.1
  have hT := C.1.2.2.2.2.2.1
  unfold M_worked_126 at hM
  refine lv_iconst (pc := 126) (v := 1) hx hb dM_worked_126 (by decide) ?_
  refine lv_goto (pc := 127) (tgt := 131) hx hb dM_worked_127 (by decide) ?_
  exact bM_worked_131  C  _ _ _ _ _ hM _ _ hW _ (lv_sub hl [0, 1, 2] rfl)
def M_worked (x1 : Int32) (x2 : Int32) (x3 : Int32) (σ : MS) : Option (Int32 × MS) :=
  (if x1 = (6 : Int32) then some (x2 <<< ((x3 &&& (31 : Int32)) &&& 31), σ) else (if x1 = (7 : Int32) then some (x2 >>> ((x3 &&& (31 : Int32)) &&& 31), σ) else (if x1 = (38 : Int32) then some (x2 &&& x3, σ) else (if x1 = (42 : Int32) then some (x2 * x3, σ) else (if x1 = (43 : Int32) then some (x2 + x3, σ) else (if x1 = (45 : Int32) then some (x2 - x3, σ) else (if x1 = (94 : Int32) then some (x2 ^^^ x3, σ) else (if x1 = (124 : Int32) then some (x2 ||| x3, σ) else (if (σ.1 25) = 0 then (if x3 = 0 then M_worked_126  x1 x2 x3 σ else M_worked_131  x1 x2 x3 (0 : Int32) σ) else M_worked_126  x1 x2 x3 σ)))))))))
set_option maxHeartbeats 4000000 in
set_option maxRecDepth 100000 in
theorem bM_worked_0  {r : Int32} {σ' : MS} (C : CxM p s m args meth c cM_worked 4 (some .int) D dA A) (x1 : Int32) (x2 : Int32) (x3 : Int32) (σ : MS) (hM : M_worked  x1 x2 x3 σ = some (r, σ')) (H : Heap) (locs : List Loc) (hW : WdM D dA h A s σ H locs) (ls : Array Slot) (hl : lv_has ls 4 [(0, .ref (h 0)), (1, .int x1), (2, .int x2), (3, .int x3)]) : W p l e rm_worked s m args below meth c H locs 0 0 (MQ below (QM D dA h A σ' (some (.int r))) args s 0 0 A) (F0 m 0 ls []) := by
  have hx := C.1.1
  have hb := C.1.2.1
  have hown := C.1.2.2.2.2.1
  have hT := C.1.2.2.2.2.2.1
  unfold M_worked at hM
  refine lv_iload_n (pc := 0) hx hb dM_worked_0 rfl (lv_at hl 1 rfl) ?_
  by_cases k1_0 : x1 = (6 : Int32)
  · replace hM := it_t k1_0 hM
    refine lv_lookup (pc := 1) (off := 87) (tgt := 88) hx hb dM_worked_1 (by decide) (by rw [k1_0]; decide) (by decide) ?_
    refine lv_iload_n (pc := 88) hx hb dM_worked_88 rfl (lv_at hl 2 rfl) ?_
    refine lv_iload_n (pc := 89) hx hb dM_worked_89 rfl (lv_at hl 3 rfl) ?_
    refine lv_bipush (pc := 90) (v := 31) hx hb dM_worked_90 (by decide) ?_
    refine lv_iand (pc := 92) hx hb dM_worked_92 ?_
    refine lv_ishl (pc := 93) hx hb dM_worked_93 ?_
    obtain ⟨rfl, rfl⟩ := sm_p hM
    exact x_retMi (pc := 94) C rfl hW dM_worked_94
  · replace hM := it_f k1_0 hM
    by_cases k1_1 : x1 = (7 : Int32)
    · replace hM := it_t k1_1 hM
      refine lv_lookup (pc := 1) (off := 94) (tgt := 95) hx hb dM_worked_1 (by decide) (by rw [k1_1]; decide) (by decide) ?_
      refine lv_iload_n (pc := 95) hx hb dM_worked_95 rfl (lv_at hl 2 rfl) ?_
      refine lv_iload_n (pc := 96) hx hb dM_worked_96 rfl (lv_at hl 3 rfl) ?_
      refine lv_bipush (pc := 97) (v := 31) hx hb dM_worked_97 (by decide) ?_
      refine lv_iand (pc := 99) hx hb dM_worked_99 ?_
      refine lv_ishr (pc := 100) hx hb dM_worked_100 ?_
      obtain ⟨rfl, rfl⟩ := sm_p hM
      exact x_retMi (pc := 101) C rfl hW dM_worked_101
    · replace hM := it_f k1_1 hM
      by_cases k1_2 : x1 = (38 : Int32)
      · replace hM := it_t k1_2 hM
        refine lv_lookup (pc := 1) (off := 101) (tgt := 102) hx hb dM_worked_1 (by decide) (by rw [k1_2]; decide) (by decide) ?_
        refine lv_iload_n (pc := 102) hx hb dM_worked_102 rfl (lv_at hl 2 rfl) ?_
        refine lv_iload_n (pc := 103) hx hb dM_worked_103 rfl (lv_at hl 3 rfl) ?_
        refine lv_iand (pc := 104) hx hb dM_worked_104 ?_
        obtain ⟨rfl, rfl⟩ := sm_p hM
        exact x_retMi (pc := 105) C rfl hW dM_worked_105
      · replace hM := it_f k1_2 hM
        by_cases k1_3 : x1 = (42 : Int32)
        · replace hM := it_t k1_3 hM
          refine lv_lookup (pc := 1) (off := 75) (tgt := 76) hx hb dM_worked_1 (by decide) (by rw [k1_3]; decide) (by decide) ?_
          refine lv_iload_n (pc := 76) hx hb dM_worked_76 rfl (lv_at hl 2 rfl) ?_
          refine lv_iload_n (pc := 77) hx hb dM_worked_77 rfl (lv_at hl 3 rfl) ?_
          refine lv_imul (pc := 78) hx hb dM_worked_78 ?_
          obtain ⟨rfl, rfl⟩ := sm_p hM
          exact x_retMi (pc := 79) C rfl hW dM_worked_79
        · replace hM := it_f k1_3 hM
          by_cases k1_4 : x1 = (43 : Int32)
          · replace hM := it_t k1_4 hM
            refine lv_lookup (pc := 1) (off := 79) (tgt := 80) hx hb dM_worked_1 (by decide) (by rw [k1_4]; decide) (by decide) ?_
            refine lv_iload_n (pc := 80) hx hb dM_worked_80 rfl (lv_at hl 2 rfl) ?_
            refine lv_iload_n (pc := 81) hx hb dM_worked_81 rfl (lv_at hl 3 rfl) ?_
            refine lv_iadd (pc := 82) hx hb dM_worked_82 ?_
            obtain ⟨rfl, rfl⟩ := sm_p hM
            exact x_retMi (pc := 83) C rfl hW dM_worked_83
          · replace hM := it_f k1_4 hM
            by_cases k1_5 : x1 = (45 : Int32)
            · replace hM := it_t k1_5 hM
              refine lv_lookup (pc := 1) (off := 83) (tgt := 84) hx hb dM_worked_1 (by decide) (by rw [k1_5]; decide) (by decide) ?_
              refine lv_iload_n (pc := 84) hx hb dM_worked_84 rfl (lv_at hl 2 rfl) ?_
              refine lv_iload_n (pc := 85) hx hb dM_worked_85 rfl (lv_at hl 3 rfl) ?_
              refine lv_isub (pc := 86) hx hb dM_worked_86 ?_
              obtain ⟨rfl, rfl⟩ := sm_p hM
              exact x_retMi (pc := 87) C rfl hW dM_worked_87
            · replace hM := it_f k1_5 hM
              by_cases k1_6 : x1 = (94 : Int32)
              · replace hM := it_t k1_6 hM
                refine lv_lookup (pc := 1) (off := 105) (tgt := 106) hx hb dM_worked_1 (by decide) (by rw [k1_6]; decide) (by decide) ?_
                refine lv_iload_n (pc := 106) hx hb dM_worked_106 rfl (lv_at hl 2 rfl) ?_
                refine lv_iload_n (pc := 107) hx hb dM_worked_107 rfl (lv_at hl 3 rfl) ?_
                refine lv_ixor (pc := 108) hx hb dM_worked_108 ?_
                obtain ⟨rfl, rfl⟩ := sm_p hM
                exact x_retMi (pc := 109) C rfl hW dM_worked_109
              · replace hM := it_f k1_6 hM
                by_cases k1_7 : x1 = (124 : Int32)
                · replace hM := it_t k1_7 hM
                  refine lv_lookup (pc := 1) (off := 109) (tgt := 110) hx hb dM_worked_1 (by decide) (by rw [k1_7]; decide) (by decide) ?_
                  refine lv_iload_n (pc := 110) hx hb dM_worked_110 rfl (lv_at hl 2 rfl) ?_
                  refine lv_iload_n (pc := 111) hx hb dM_worked_111 rfl (lv_at hl 3 rfl) ?_
                  refine lv_ior (pc := 112) hx hb dM_worked_112 ?_
                  obtain ⟨rfl, rfl⟩ := sm_p hM
                  exact x_retMi (pc := 113) C rfl hW dM_worked_113
                · replace hM := it_f k1_7 hM
                  refine lv_lookup (pc := 1) (off := 113) (tgt := 114) hx hb dM_worked_1 (by decide) (by rw [lv_osw k1_0 (by decide)]; rw [lv_osw k1_1 (by decide)]; rw [lv_osw k1_2 (by decide)]; rw [lv_osw k1_3 (by decide)]; rw [lv_osw k1_4 (by decide)]; rw [lv_osw k1_5 (by decide)]; rw [lv_osw k1_6 (by decide)]; rw [lv_osw k1_7 (by decide)]; rfl) (by decide) ?_
                  refine lv_aload_n (pc := 114) hx hb dM_worked_114 rfl (lv_at hl 0 rfl) ?_
                  refine lv_aload_n (pc := 115) hx hb dM_worked_115 rfl (lv_at hl 0 rfl) ?_
                  refine gM (pc := 116) C hW 35 (by decide) q_1692 rfl rfl dM_worked_116 ?_
                  refine lv_if_ne (pc := 119) (tgt := 126) hx hb dM_worked_119 (by decide) (fun hc => ?_) (fun hc => ?_)
                  · replace hM := it_f hc hM
                    exact bM_worked_126  C  _ _ _ _ hM _ _ hW _ (lv_sub hl [1, 2, 3] rfl)
                  · replace hM := it_t hc hM
                    refine lv_iload_n (pc := 122) hx hb dM_worked_122 rfl (lv_at hl 3 rfl) ?_
                    refine lv_if_ne (pc := 123) (tgt := 130) hx hb dM_worked_123 (by decide) (fun hc => ?_) (fun hc => ?_)
                    · replace hM := it_f hc hM
                      refine lv_iconst (pc := 130) (v := 0) hx hb dM_worked_130 (by decide) ?_
                      exact bM_worked_131  C  _ _ _ _ _ hM _ _ hW _ (lv_sub hl [1, 2, 3] rfl)
                    · replace hM := it_t hc hM
                      exact bM_worked_126  C  _ _ _ _ hM _ _ hW _ (lv_sub hl [1, 2, 3] rfl)
theorem kM_worked (l : Launch) (D : va_G) (dA : Nat → ClassId) (h : Nat → Nat) (x1 : Int32) (x2 : Int32) (x3 : Int32) (σ : MS) {r : Int32} {σ' : MS} (hM : M_worked x1 x2 x3 σ = some (r, σ')) : KM l D dA yM_worked cM_worked 4 (some .int) rm_worked h σ [.int x1, .int x2, .int x3] (some (.int r)) σ' := x_enterM rfl (Nat.le_of_ble_eq_true rfl) (fun p e s m args below meth c A C hW ls hl => bM_worked_0 C x1 x2 x3 σ hM s.heap [] hW ls hl)
def M_join  (σ : MS) : Option (Int32 × MS) :=
  bnd (sF σ 27 ((σ.1 27) - (1 : Int32))) (fun σ1 => gd (inB (σ1.1 28) 4100) (bnd (sF σ1 28 ((σ1.1 28) + (1 : Int32))) (fun σ3 => gd (inB (σ3.1 27) 4100) (gd (inB (σ3.1 28) 4100) (cl (M_worked  (σ3.2 7 (σ3.1 27).toNatClampNeg) (σ3.2 7 (σ3.1 28).toNatClampNeg) (σ1.2 7 (σ1.1 28).toNatClampNeg) σ3) (fun r6 σ7 => gd (inB (σ3.1 28) 4100) (bnd (sA σ7 7 (σ3.1 28).toNatClampNeg r6) (fun σ9 => some ((0 : Int32), σ9)))))))))
set_option maxHeartbeats 4000000 in
set_option maxRecDepth 100000 in
theorem bM_join_0  {r : Int32} {σ' : MS} (C : CxM p s m args meth c cM_join 2 none D dA A)  (σ : MS) (hM : M_join   σ = some (r, σ')) (H : Heap) (locs : List Loc) (hW : WdM D dA h A s σ H locs) (ls : Array Slot) (hl : lv_has ls 2 [(0, .ref (h 0))]) : W p l e rm_join s m args below meth c H locs 0 0 (MQ below (QM D dA h A σ' none) args s 0 0 A) (F0 m 0 ls []) := by
  have hx := C.1.1
  have hb := C.1.2.1
  have hown := C.1.2.2.2.2.1
  have hT := C.1.2.2.2.2.2.1
  unfold M_join at hM
  refine lv_aload_n (pc := 0) hx hb dM_join_0 rfl (lv_at hl 0 rfl) ?_
  refine lv_dup (pc := 1) hx hb dM_join_1 rfl ?_
  refine gM (pc := 2) C hW 38 (by decide) q_1695 rfl rfl dM_join_2 ?_
  refine lv_iconst (pc := 5) (v := 1) hx hb dM_join_5 (by decide) ?_
  refine lv_isub (pc := 6) hx hb dM_join_6 ?_
  refine pM (pc := 7) (ty := .int) C hW 38 27 (by decide) q_1695 rfl rfl (by decide +kernel) rfl rfl (st_signs dA h _ _) dM_join_7 (fun H locs hW => ?_)
  obtain ⟨σ1, eσ1, hM⟩ := bnd_some hM
  rw [← eσ1] at hW
  refine lv_aload_n (pc := 10) hx hb dM_join_10 rfl (lv_at hl 0 rfl) ?_
  refine gM (pc := 11) C hW 37 (by decide) q_1694 rfl rfl dM_join_11 ?_
  refine lv_aload_n (pc := 14) hx hb dM_join_14 rfl (lv_at hl 0 rfl) ?_
  refine gM (pc := 15) C hW 39 (by decide) q_1696 rfl rfl dM_join_15 ?_
  obtain ⟨hg2, hM⟩ := gd_some hM
  refine x_ldI (pc := 18) C hW 11 rfl hg2 dM_join_18 ?_
  refine lv_istore_n (pc := 19) (lv' := [(1, .int (σ1.2 7 (σ1.1 28).toNatClampNeg)), (0, .ref (h 0))]) hx hb dM_join_19 rfl hl (by decide) rfl (fun ls hl => ?_)
  refine lv_aload_n (pc := 20) hx hb dM_join_20 rfl (lv_at hl 1 rfl) ?_
  refine lv_dup (pc := 21) hx hb dM_join_21 rfl ?_
  refine gM (pc := 22) C hW 39 (by decide) q_1696 rfl rfl dM_join_22 ?_
  refine lv_iconst (pc := 25) (v := 1) hx hb dM_join_25 (by decide) ?_
  refine lv_iadd (pc := 26) hx hb dM_join_26 ?_
  refine pM (pc := 27) (ty := .int) C hW 39 28 (by decide) q_1696 rfl rfl (by decide +kernel) rfl rfl (st_values dA h _ _) dM_join_27 (fun H locs hW => ?_)
  obtain ⟨σ3, eσ3, hM⟩ := bnd_some hM
  rw [← eσ3] at hW
  refine lv_aload_n (pc := 30) hx hb dM_join_30 rfl (lv_at hl 1 rfl) ?_
  refine gM (pc := 31) C hW 37 (by decide) q_1694 rfl rfl dM_join_31 ?_
  refine lv_aload_n (pc := 34) hx hb dM_join_34 rfl (lv_at hl 1 rfl) ?_
  refine gM (pc := 35) C hW 39 (by decide) q_1696 rfl rfl dM_join_35 ?_
  refine lv_aload_n (pc := 38) hx hb dM_join_38 rfl (lv_at hl 1 rfl) ?_
  refine lv_aload_n (pc := 39) hx hb dM_join_39 rfl (lv_at hl 1 rfl) ?_
  refine gM (pc := 40) C hW 37 (by decide) q_1694 rfl rfl dM_join_40 ?_
  refine lv_aload_n (pc := 43) hx hb dM_join_43 rfl (lv_at hl 1 rfl) ?_
  refine gM (pc := 44) C hW 38 (by decide) q_1695 rfl rfl dM_join_44 ?_
  obtain ⟨hg4, hM⟩ := gd_some hM
  refine x_ldI (pc := 47) C hW 11 rfl hg4 dM_join_47 ?_
  refine lv_aload_n (pc := 48) hx hb dM_join_48 rfl (lv_at hl 1 rfl) ?_
  refine gM (pc := 49) C hW 37 (by decide) q_1694 rfl rfl dM_join_49 ?_
  refine lv_aload_n (pc := 52) hx hb dM_join_52 rfl (lv_at hl 1 rfl) ?_
  refine gM (pc := 53) C hW 39 (by decide) q_1696 rfl rfl dM_join_53 ?_
  obtain ⟨hg5, hM⟩ := gd_some hM
  refine x_ldI (pc := 56) C hW 11 rfl hg5 dM_join_56 ?_
  refine lv_iload_n (pc := 57) hx hb dM_join_57 rfl (lv_at hl 0 rfl) ?_
  obtain ⟨r6, σ7, hr6, hM⟩ := cl_some hM
  refine x_callMi (pc := 58) C hW (kM_worked l D dA h  (σ3.2 7 (σ3.1 27).toNatClampNeg) (σ3.2 7 (σ3.1 28).toNatClampNeg) (σ1.2 7 (σ1.1 28).toNatClampNeg) _ hr6) gM_worked_482 ⟨rfl, by decide, by decide, by decide +kernel⟩ ⟨rfl, rfl⟩ ⟨by decide, by decide⟩ ⟨by decide, by decide⟩ (As := [.int (σ3.2 7 (σ3.1 27).toNatClampNeg), .int (σ3.2 7 (σ3.1 28).toNatClampNeg), .int (σ1.2 7 (σ1.1 28).toNatClampNeg)]) (n := 3) rfl hl.1 rfl (Nat.le_of_ble_eq_true rfl) dM_join_58 (fun H locs hW => ?_)
  obtain ⟨hg8, hM⟩ := gd_some hM
  refine x_stI (pc := 61) C hW 11 7 rfl hg8 (sa_pile dA h _ _ _) dM_join_61 (fun H locs hW => ?_)
  obtain ⟨σ9, eσ9, hM⟩ := bnd_some hM
  rw [← eσ9] at hW
  obtain ⟨rfl, rfl⟩ := sm_p hM
  exact x_retMv (pc := 62) C rfl hW dM_join_62
theorem kM_join (l : Launch) (D : va_G) (dA : Nat → ClassId) (h : Nat → Nat)  (σ : MS) {r : Int32} {σ' : MS} (hM : M_join  σ = some (r, σ')) : KM l D dA yM_join cM_join 2 none rm_join h σ [] none σ' := x_enterM rfl (Nat.le_of_ble_eq_true rfl) (fun p e s m args below meth c A C hW ls hl => bM_join_0 C  σ hM s.heap [] hW ls hl)
def M_isAlike_57 (N : Nat) (t0 : Int32) (σ : MS) : Option Int32 :=
  gd (isB t0) (some t0)
set_option maxHeartbeats 4000000 in
set_option maxRecDepth 100000 in
theorem bM_isAlike_57 (N : Nat)  {r : Int32} (C : CxM p s m args meth c cM_isAlike 5 (some .boolean) D dA A) (t0 : Int32) (σ : MS) (hM : M_isAlike_57 N  t0 σ = some r) (hW : WdM D dA h A s σ s.heap []) (ls : Array Slot) (hl : lv_has ls 5 []) : W p l e rm_isAlike s m args below meth c s.heap [] 0 0 (MQ below (QS (some (.int r))) args s 0 0 (fun _ => False)) (F0 m 57 ls [.int t0]) := by
  have hx := C.1.1
  have hb := C.1.2.1
  have hown := C.1.2.2.2.2.1
  have hT := C.1.2.2.2.2.2.1
  unfold M_isAlike_57 at hM
  obtain ⟨hg1, hM⟩ := gd_some hM
  obtain rfl := sm_i hM
  exact x_retSz (pc := 57) C.1 rfl hg1 dM_isAlike_57
def M_isAlike_3 (N : Nat)  : Nat → Int32 → Int32 → Int32 → Int32 → MS → Option Int32
  | 0 => fun _ _ _ _ _ => none
  | n + 1 => fun x1 x2 x3 x4 σ => (if x2 ≤ x4 then cr (M_charAt  ((x3 + x2) - x1) σ) (fun r1 => cr (M_isPlain  r1) (fun r2 => (if r2 = 0 then M_isAlike_57 N  (1 : Int32) σ else M_isAlike_57 N  (0 : Int32) σ))) else cr (M_charAt  ((x3 + x4) - x1) σ) (fun r3 => gd (inB x4 4100) ((if r3 = (σ.2 1 x4.toNatClampNeg) then (M_isAlike_3 N  n) x1 x2 x3 (x4 + (1 : Int32)) σ else some (0 : Int32)))))
set_option maxHeartbeats 4000000 in
set_option maxRecDepth 100000 in
theorem bM_isAlike_3 (N : Nat)  {r : Int32} (C : CxM p s m args meth c cM_isAlike 5 (some .boolean) D dA A) : ∀ (n : Nat) (x1 : Int32) (x2 : Int32) (x3 : Int32) (x4 : Int32) (σ : MS), M_isAlike_3 N  n x1 x2 x3 x4 σ = some r → WdM D dA h A s σ s.heap [] → ∀ (ls : Array Slot), lv_has ls 5 [(0, .ref (h 0)), (1, .int x1), (2, .int x2), (3, .int x3), (4, .int x4)] → W p l e rm_isAlike s m args below meth c s.heap [] 0 0 (MQ below (QS (some (.int r))) args s 0 0 (fun _ => False)) (F0 m 3 ls []) := by
  have hx := C.1.1
  have hb := C.1.2.1
  have hown := C.1.2.2.2.2.1
  have hT := C.1.2.2.2.2.2.1
  intro n
  induction n with
  | zero => intro x1 x2 x3 x4 σ hM; cases hM
  | succ n hrec3 =>
    intro x1 x2 x3 x4 σ hM hW ls hl
    rw [M_isAlike_3] at hM
    refine lv_iload (pc := 3) hx hb dM_isAlike_3 (lv_at hl 4 rfl) ?_
    refine lv_iload_n (pc := 5) hx hb dM_isAlike_5 rfl (lv_at hl 2 rfl) ?_
    refine lv_icmp_ge (pc := 6) (tgt := 37) hx hb dM_isAlike_6 (by decide) (fun hc => ?_) (fun hc => ?_)
    · replace hM := it_t hc hM
      refine lv_aload_n (pc := 37) hx hb dM_isAlike_37 rfl (lv_at hl 0 rfl) ?_
      refine lv_iload_n (pc := 38) hx hb dM_isAlike_38 rfl (lv_at hl 3 rfl) ?_
      refine lv_iload_n (pc := 39) hx hb dM_isAlike_39 rfl (lv_at hl 2 rfl) ?_
      refine lv_iadd (pc := 40) hx hb dM_isAlike_40 ?_
      refine lv_iload_n (pc := 41) hx hb dM_isAlike_41 rfl (lv_at hl 1 rfl) ?_
      refine lv_isub (pc := 42) hx hb dM_isAlike_42 ?_
      obtain ⟨r1, hr1, hM⟩ := cr_some hM
      refine x_callRi (pc := 43) C hW (kM_charAt l D dA h  ((x3 + x2) - x1) _ hr1) gM_charAt_368 ⟨rfl, by decide, by decide, by decide +kernel⟩ ⟨rfl, rfl⟩ ⟨by decide, by decide⟩ ⟨by decide, by decide⟩ (As := [.int ((x3 + x2) - x1)]) (n := 1) rfl hl.1 rfl (Nat.le_of_ble_eq_true rfl) dM_isAlike_43 ?_
      obtain ⟨r2, hr2, hM⟩ := cr_some hM
      refine x_callSi (pc := 46) C.1 (kM_isPlain l  r1 hr2) gM_isPlain_372 ⟨rfl, by decide, by decide, by decide +kernel⟩ ⟨rfl, rfl⟩ ⟨by decide, by decide⟩ ⟨by decide, by decide⟩ (As := [.int r1]) (n := 1) rfl hl.1 rfl (Nat.le_of_ble_eq_true rfl) dM_isAlike_46 ?_
      refine lv_if_ne (pc := 49) (tgt := 56) hx hb dM_isAlike_49 (by decide) (fun hc => ?_) (fun hc => ?_)
      · replace hM := it_f hc hM
        refine lv_iconst (pc := 56) (v := 0) hx hb dM_isAlike_56 (by decide) ?_
        exact bM_isAlike_57 N  C  _ _ hM hW _ (lv_sub hl [] rfl)
      · replace hM := it_t hc hM
        refine lv_iconst (pc := 52) (v := 1) hx hb dM_isAlike_52 (by decide) ?_
        refine lv_goto (pc := 53) (tgt := 57) hx hb dM_isAlike_53 (by decide) ?_
        exact bM_isAlike_57 N  C  _ _ hM hW _ (lv_sub hl [] rfl)
    · replace hM := it_f hc hM
      refine lv_aload_n (pc := 9) hx hb dM_isAlike_9 rfl (lv_at hl 0 rfl) ?_
      refine lv_iload_n (pc := 10) hx hb dM_isAlike_10 rfl (lv_at hl 3 rfl) ?_
      refine lv_iload (pc := 11) hx hb dM_isAlike_11 (lv_at hl 4 rfl) ?_
      refine lv_iadd (pc := 13) hx hb dM_isAlike_13 ?_
      refine lv_iload_n (pc := 14) hx hb dM_isAlike_14 rfl (lv_at hl 1 rfl) ?_
      refine lv_isub (pc := 15) hx hb dM_isAlike_15 ?_
      obtain ⟨r3, hr3, hM⟩ := cr_some hM
      refine x_callRi (pc := 16) C hW (kM_charAt l D dA h  ((x3 + x4) - x1) _ hr3) gM_charAt_368 ⟨rfl, by decide, by decide, by decide +kernel⟩ ⟨rfl, rfl⟩ ⟨by decide, by decide⟩ ⟨by decide, by decide⟩ (As := [.int ((x3 + x4) - x1)]) (n := 1) rfl hl.1 rfl (Nat.le_of_ble_eq_true rfl) dM_isAlike_16 ?_
      refine lv_aload_n (pc := 19) hx hb dM_isAlike_19 rfl (lv_at hl 0 rfl) ?_
      refine gM (pc := 20) C hW 6 (by decide) q_1663 rfl rfl dM_isAlike_20 ?_
      refine lv_iload (pc := 23) hx hb dM_isAlike_23 (lv_at hl 4 rfl) ?_
      obtain ⟨hg4, hM⟩ := gd_some hM
      refine x_ldC (pc := 25) C hW 5 rfl hg4 dM_isAlike_25 ?_
      refine lv_icmp_eq (pc := 26) (tgt := 31) hx hb dM_isAlike_26 (by decide) (fun hc => ?_) (fun hc => ?_)
      · replace hM := it_t hc hM
        refine lv_iinc (pc := 31) (v := x4 + (1 : Int32)) (lv' := [(4, .int (x4 + (1 : Int32))), (0, .ref (h 0)), (1, .int x1), (2, .int x2), (3, .int x3)]) hx hb dM_isAlike_31 hl (k := 4) rfl rfl (by decide) rfl (fun ls hl => ?_)
        refine lv_goto (pc := 34) (tgt := 3) hx hb dM_isAlike_34 (by decide) ?_
        exact hrec3 _ _ _ _ _ hM hW _ (lv_sub hl [1, 2, 3, 4, 0] rfl)
      · replace hM := it_f hc hM
        refine lv_iconst (pc := 29) (v := 0) hx hb dM_isAlike_29 (by decide) ?_
        obtain rfl := sm_i hM
        exact x_retSz (pc := 30) C.1 rfl (by decide) dM_isAlike_30
def M_isAlike (N : Nat) (x1 : Int32) (x2 : Int32) (x3 : Int32) (σ : MS) : Option Int32 :=
  M_isAlike_3 N  N x1 x2 x3 x1 σ
set_option maxHeartbeats 4000000 in
set_option maxRecDepth 100000 in
theorem bM_isAlike_0 (N : Nat)  {r : Int32} (C : CxM p s m args meth c cM_isAlike 5 (some .boolean) D dA A) (x1 : Int32) (x2 : Int32) (x3 : Int32) (σ : MS) (hM : M_isAlike N  x1 x2 x3 σ = some r) (hW : WdM D dA h A s σ s.heap []) (ls : Array Slot) (hl : lv_has ls 5 [(0, .ref (h 0)), (1, .int x1), (2, .int x2), (3, .int x3)]) : W p l e rm_isAlike s m args below meth c s.heap [] 0 0 (MQ below (QS (some (.int r))) args s 0 0 (fun _ => False)) (F0 m 0 ls []) := by
  have hx := C.1.1
  have hb := C.1.2.1
  have hown := C.1.2.2.2.2.1
  have hT := C.1.2.2.2.2.2.1
  unfold M_isAlike at hM
  refine lv_iload_n (pc := 0) hx hb dM_isAlike_0 rfl (lv_at hl 1 rfl) ?_
  refine lv_istore (pc := 1) (lv' := [(4, .int x1), (0, .ref (h 0)), (1, .int x1), (2, .int x2), (3, .int x3)]) hx hb dM_isAlike_1 hl (by decide) rfl (fun ls hl => ?_)
  exact bM_isAlike_3 N  C  N _ _ _ _ _ hM hW _ (lv_sub hl [1, 2, 3, 4, 0] rfl)
theorem kM_isAlike (l : Launch) (D : va_G) (dA : Nat → ClassId) (h : Nat → Nat) (N : Nat) (x1 : Int32) (x2 : Int32) (x3 : Int32) (σ : MS) {r : Int32} (hM : M_isAlike N x1 x2 x3 σ = some r) : KR l D dA yM_isAlike cM_isAlike 5 (some .boolean) rm_isAlike h σ [.int x1, .int x2, .int x3] (some (.int r)) := x_enterR rfl (Nat.le_of_ble_eq_true rfl) (fun p e s m args below meth c A C hW ls hl => bM_isAlike_0 N C x1 x2 x3 σ hM hW ls hl)
def M_find_44 (N : Nat) (rec2 : Int32 → Int32 → Int32 → MS → Option Int32) (x1 : Int32) (x2 : Int32) (x3 : Int32) (σ : MS) : Option Int32 :=
  rec2 x1 x2 (x3 + (1 : Int32)) σ
set_option maxHeartbeats 4000000 in
set_option maxRecDepth 100000 in
theorem bM_find_44 (N : Nat) (rec2 : Int32 → Int32 → Int32 → MS → Option Int32) {r : Int32} (C : CxM p s m args meth c cM_find 4 (some .int) D dA A) (hrec2 : ∀ (x1 : Int32) (x2 : Int32) (x3 : Int32) (σ : MS), rec2 x1 x2 x3 σ = some r → WdM D dA h A s σ s.heap [] → ∀ (ls : Array Slot), lv_has ls 4 [(0, .ref (h 0)), (1, .int x1), (2, .int x2), (3, .int x3)] → W p l e rm_find s m args below meth c s.heap [] 0 0 (MQ below (QS (some (.int r))) args s 0 0 (fun _ => False)) (F0 m 2 ls [])) (x1 : Int32) (x2 : Int32) (x3 : Int32) (σ : MS) (hM : M_find_44 N rec2 x1 x2 x3 σ = some r) (hW : WdM D dA h A s σ s.heap []) (ls : Array Slot) (hl : lv_has ls 4 [(0, .ref (h 0)), (1, .int x1), (2, .int x2), (3, .int x3)]) : W p l e rm_find s m args below meth c s.heap [] 0 0 (MQ below (QS (some (.int r))) args s 0 0 (fun _ => False)) (F0 m 44 ls []) := by
  have hx := C.1.1
  have hb := C.1.2.1
  have hown := C.1.2.2.2.2.1
  have hT := C.1.2.2.2.2.2.1
  unfold M_find_44 at hM
  refine lv_iinc (pc := 44) (v := x3 + (1 : Int32)) (lv' := [(3, .int (x3 + (1 : Int32))), (0, .ref (h 0)), (1, .int x1), (2, .int x2)]) hx hb dM_find_44 hl (k := 3) rfl rfl (by decide) rfl (fun ls hl => ?_)
  refine lv_goto (pc := 47) (tgt := 2) hx hb dM_find_47 (by decide) ?_
  exact hrec2 _ _ _ _ hM hW _ (lv_sub hl [1, 2, 3, 0] rfl)
def M_find_2 (N : Nat)  : Nat → Int32 → Int32 → Int32 → MS → Option Int32
  | 0 => fun _ _ _ _ => none
  | n + 1 => fun x1 x2 x3 σ => (if (σ.1 5) ≤ x3 then some (-1 : Int32) else gd (inB x3 2060) ((if (3 : Int32) ≤ ((σ.2 5 x3.toNatClampNeg) >>> ((13 : Int32) &&& 31)) then M_find_44 N (M_find_2 N  n) x1 x2 x3 σ else gd (inB x3 2060) (cr (M_isAlike N x1 x2 ((σ.2 5 x3.toNatClampNeg) &&& (8191 : Int32)) σ) (fun r3 => (if r3 = 0 then M_find_44 N (M_find_2 N  n) x1 x2 x3 σ else some x3))))))
set_option maxHeartbeats 4000000 in
set_option maxRecDepth 100000 in
theorem bM_find_2 (N : Nat)  {r : Int32} (C : CxM p s m args meth c cM_find 4 (some .int) D dA A) : ∀ (n : Nat) (x1 : Int32) (x2 : Int32) (x3 : Int32) (σ : MS), M_find_2 N  n x1 x2 x3 σ = some r → WdM D dA h A s σ s.heap [] → ∀ (ls : Array Slot), lv_has ls 4 [(0, .ref (h 0)), (1, .int x1), (2, .int x2), (3, .int x3)] → W p l e rm_find s m args below meth c s.heap [] 0 0 (MQ below (QS (some (.int r))) args s 0 0 (fun _ => False)) (F0 m 2 ls []) := by
  have hx := C.1.1
  have hb := C.1.2.1
  have hown := C.1.2.2.2.2.1
  have hT := C.1.2.2.2.2.2.1
  intro n
  induction n with
  | zero => intro x1 x2 x3 σ hM; cases hM
  | succ n hrec2 =>
    intro x1 x2 x3 σ hM hW ls hl
    rw [M_find_2] at hM
    refine lv_iload_n (pc := 2) hx hb dM_find_2 rfl (lv_at hl 3 rfl) ?_
    refine lv_aload_n (pc := 3) hx hb dM_find_3 rfl (lv_at hl 0 rfl) ?_
    refine gM (pc := 4) C hW 13 (by decide) q_1670 rfl rfl dM_find_4 ?_
    refine lv_icmp_ge (pc := 7) (tgt := 50) hx hb dM_find_7 (by decide) (fun hc => ?_) (fun hc => ?_)
    · replace hM := it_t hc hM
      refine lv_iconst (pc := 50) (v := -1) hx hb dM_find_50 (by decide) ?_
      obtain rfl := sm_i hM
      exact x_retS (pc := 51) C.1 rfl dM_find_51
    · replace hM := it_f hc hM
      refine lv_aload_n (pc := 10) hx hb dM_find_10 rfl (lv_at hl 0 rfl) ?_
      refine gM (pc := 11) C hW 14 (by decide) q_1671 rfl rfl dM_find_11 ?_
      refine lv_iload_n (pc := 14) hx hb dM_find_14 rfl (lv_at hl 3 rfl) ?_
      obtain ⟨hg1, hM⟩ := gd_some hM
      refine x_ldI (pc := 15) C hW 9 rfl hg1 dM_find_15 ?_
      refine lv_bipush (pc := 16) (v := 13) hx hb dM_find_16 (by decide) ?_
      refine lv_ishr (pc := 18) hx hb dM_find_18 ?_
      refine lv_iconst (pc := 19) (v := 3) hx hb dM_find_19 (by decide) ?_
      refine lv_icmp_ge (pc := 20) (tgt := 44) hx hb dM_find_20 (by decide) (fun hc => ?_) (fun hc => ?_)
      · replace hM := it_t hc hM
        exact bM_find_44 N _ C hrec2 _ _ _ _ hM hW _ (lv_sub hl [0, 1, 2, 3] rfl)
      · replace hM := it_f hc hM
        refine lv_aload_n (pc := 23) hx hb dM_find_23 rfl (lv_at hl 0 rfl) ?_
        refine lv_iload_n (pc := 24) hx hb dM_find_24 rfl (lv_at hl 1 rfl) ?_
        refine lv_iload_n (pc := 25) hx hb dM_find_25 rfl (lv_at hl 2 rfl) ?_
        refine lv_aload_n (pc := 26) hx hb dM_find_26 rfl (lv_at hl 0 rfl) ?_
        refine gM (pc := 27) C hW 14 (by decide) q_1671 rfl rfl dM_find_27 ?_
        refine lv_iload_n (pc := 30) hx hb dM_find_30 rfl (lv_at hl 3 rfl) ?_
        obtain ⟨hg2, hM⟩ := gd_some hM
        refine x_ldI (pc := 31) C hW 9 rfl hg2 dM_find_31 ?_
        refine lv_sipush (pc := 32) (v := 8191) hx hb dM_find_32 (by decide) ?_
        refine lv_iand (pc := 35) hx hb dM_find_35 ?_
        obtain ⟨r3, hr3, hM⟩ := cr_some hM
        refine x_callRi (pc := 36) C hW (kM_isAlike l D dA h N x1 x2 ((σ.2 5 x3.toNatClampNeg) &&& (8191 : Int32)) _ hr3) gM_isAlike_452 ⟨rfl, by decide, by decide, by decide +kernel⟩ ⟨rfl, rfl⟩ ⟨by decide, by decide⟩ ⟨by decide, by decide⟩ (As := [.int x1, .int x2, .int ((σ.2 5 x3.toNatClampNeg) &&& (8191 : Int32))]) (n := 3) rfl hl.1 rfl (Nat.le_of_ble_eq_true rfl) dM_find_36 ?_
        refine lv_if_eq (pc := 39) (tgt := 44) hx hb dM_find_39 (by decide) (fun hc => ?_) (fun hc => ?_)
        · replace hM := it_t hc hM
          exact bM_find_44 N _ C hrec2 _ _ _ _ hM hW _ (lv_sub hl [0, 1, 2, 3] rfl)
        · replace hM := it_f hc hM
          refine lv_iload_n (pc := 42) hx hb dM_find_42 rfl (lv_at hl 3 rfl) ?_
          obtain rfl := sm_i hM
          exact x_retS (pc := 43) C.1 rfl dM_find_43
def M_find (N : Nat) (x1 : Int32) (x2 : Int32) (σ : MS) : Option Int32 :=
  M_find_2 N  N x1 x2 (0 : Int32) σ
set_option maxHeartbeats 4000000 in
set_option maxRecDepth 100000 in
theorem bM_find_0 (N : Nat)  {r : Int32} (C : CxM p s m args meth c cM_find 4 (some .int) D dA A) (x1 : Int32) (x2 : Int32) (σ : MS) (hM : M_find N  x1 x2 σ = some r) (hW : WdM D dA h A s σ s.heap []) (ls : Array Slot) (hl : lv_has ls 4 [(0, .ref (h 0)), (1, .int x1), (2, .int x2)]) : W p l e rm_find s m args below meth c s.heap [] 0 0 (MQ below (QS (some (.int r))) args s 0 0 (fun _ => False)) (F0 m 0 ls []) := by
  have hx := C.1.1
  have hb := C.1.2.1
  have hown := C.1.2.2.2.2.1
  have hT := C.1.2.2.2.2.2.1
  unfold M_find at hM
  refine lv_iconst (pc := 0) (v := 0) hx hb dM_find_0 (by decide) ?_
  refine lv_istore_n (pc := 1) (lv' := [(3, .int (0 : Int32)), (0, .ref (h 0)), (1, .int x1), (2, .int x2)]) hx hb dM_find_1 rfl hl (by decide) rfl (fun ls hl => ?_)
  exact bM_find_2 N  C  N _ _ _ _ hM hW _ (lv_sub hl [1, 2, 3, 0] rfl)
theorem kM_find (l : Launch) (D : va_G) (dA : Nat → ClassId) (h : Nat → Nat) (N : Nat) (x1 : Int32) (x2 : Int32) (σ : MS) {r : Int32} (hM : M_find N x1 x2 σ = some r) : KR l D dA yM_find cM_find 4 (some .int) rm_find h σ [.int x1, .int x2] (some (.int r)) := x_enterR rfl (Nat.le_of_ble_eq_true rfl) (fun p e s m args below meth c A C hW ls hl => bM_find_0 N C x1 x2 σ hM hW ls hl)
def M_value (x1 : Int32) (σ : MS) : Option (Int32 × MS) :=
  bnd (sF σ 28 ((σ.1 28) - (1 : Int32))) (fun σ1 => gd (inB (σ1.1 28) 4100) (bnd (sA σ1 7 (σ1.1 28).toNatClampNeg x1) (fun σ3 => some ((0 : Int32), σ3))))
set_option maxHeartbeats 4000000 in
set_option maxRecDepth 100000 in
theorem bM_value_0  {r : Int32} {σ' : MS} (C : CxM p s m args meth c cM_value 2 none D dA A) (x1 : Int32) (σ : MS) (hM : M_value  x1 σ = some (r, σ')) (H : Heap) (locs : List Loc) (hW : WdM D dA h A s σ H locs) (ls : Array Slot) (hl : lv_has ls 2 [(0, .ref (h 0)), (1, .int x1)]) : W p l e rm_value s m args below meth c H locs 0 0 (MQ below (QM D dA h A σ' none) args s 0 0 A) (F0 m 0 ls []) := by
  have hx := C.1.1
  have hb := C.1.2.1
  have hown := C.1.2.2.2.2.1
  have hT := C.1.2.2.2.2.2.1
  unfold M_value at hM
  refine lv_aload_n (pc := 0) hx hb dM_value_0 rfl (lv_at hl 0 rfl) ?_
  refine lv_dup (pc := 1) hx hb dM_value_1 rfl ?_
  refine gM (pc := 2) C hW 39 (by decide) q_1696 rfl rfl dM_value_2 ?_
  refine lv_iconst (pc := 5) (v := 1) hx hb dM_value_5 (by decide) ?_
  refine lv_isub (pc := 6) hx hb dM_value_6 ?_
  refine pM (pc := 7) (ty := .int) C hW 39 28 (by decide) q_1696 rfl rfl (by decide +kernel) rfl rfl (st_values dA h _ _) dM_value_7 (fun H locs hW => ?_)
  obtain ⟨σ1, eσ1, hM⟩ := bnd_some hM
  rw [← eσ1] at hW
  refine lv_aload_n (pc := 10) hx hb dM_value_10 rfl (lv_at hl 0 rfl) ?_
  refine gM (pc := 11) C hW 37 (by decide) q_1694 rfl rfl dM_value_11 ?_
  refine lv_aload_n (pc := 14) hx hb dM_value_14 rfl (lv_at hl 0 rfl) ?_
  refine gM (pc := 15) C hW 39 (by decide) q_1696 rfl rfl dM_value_15 ?_
  refine lv_iload_n (pc := 18) hx hb dM_value_18 rfl (lv_at hl 1 rfl) ?_
  obtain ⟨hg2, hM⟩ := gd_some hM
  refine x_stI (pc := 19) C hW 11 7 rfl hg2 (sa_pile dA h _ _ _) dM_value_19 (fun H locs hW => ?_)
  obtain ⟨σ3, eσ3, hM⟩ := bnd_some hM
  rw [← eσ3] at hW
  obtain ⟨rfl, rfl⟩ := sm_p hM
  exact x_retMv (pc := 20) C rfl hW dM_value_20
theorem kM_value (l : Launch) (D : va_G) (dA : Nat → ClassId) (h : Nat → Nat) (x1 : Int32) (σ : MS) {r : Int32} {σ' : MS} (hM : M_value x1 σ = some (r, σ')) : KM l D dA yM_value cM_value 2 none rm_value h σ [.int x1] none σ' := x_enterM rfl (Nat.le_of_ble_eq_true rfl) (fun p e s m args below meth c A C hW ls hl => bM_value_0 C x1 σ hM s.heap [] hW ls hl)
end
