theorem q_1672 : (Jvm.Cond.fieldLink "LineAssemblerModel" (342 : Nat) "LineAssemblerModel" "where" "[I") ∈ lw_gd := u_6 (List.mem_of_getElem? (i := 232) (by decide +kernel)) (by decide +kernel)
theorem q_1686 : (Jvm.Cond.fieldLink "LineAssemblerModel" (495 : Nat) "LineAssemblerModel" "address" "I") ∈ lw_gd := u_7 (List.mem_of_getElem? (i := 6) (by decide +kernel)) (by decide +kernel)
theorem q_1691 : (Jvm.Cond.fieldLink "LineAssemblerModel" (466 : Nat) "LineAssemblerModel" "missing" "Z") ∈ lw_gd := u_7 (List.mem_of_getElem? (i := 11) (by decide +kernel)) (by decide +kernel)
theorem q_1693 : (Jvm.Cond.fieldLink "LineAssemblerModel" (492 : Nat) "LineAssemblerModel" "loose" "Z") ∈ lw_gd := u_7 (List.mem_of_getElem? (i := 13) (by decide +kernel)) (by decide +kernel)
theorem q_1874 : (Jvm.Cond.methodLink "LineAssemblerModel" (489 : Nat) ({ cls := "LineAssemblerModel", name := "find", desc := "(II)I" } : Jvm.MethodName)) ∈ lw_gd := u_7 (List.mem_of_getElem? (i := 194) (by decide +kernel)) (by decide +kernel)
theorem q_1876 : (Jvm.Cond.instanceMethod ({ cls := "LineAssemblerModel", name := "find", desc := "(II)I" } : Jvm.MethodName)) ∈ lw_gd := u_7 (List.mem_of_getElem? (i := 196) (by decide +kernel)) (by decide +kernel)
theorem q_1877 : (Jvm.Cond.code ({ cls := "LineAssemblerModel", name := "find", desc := "(II)I" } : Jvm.MethodName) prog_14_method_23_code (4 : Nat) (Option.some Jvm.ClassFile.FieldType.int)) ∈ lw_gd := u_7 (List.mem_of_getElem? (i := 197) (by decide +kernel)) (by decide +kernel)
theorem q_1927 : (Jvm.Cond.methodLink "LineAssemblerModel" (521 : Nat) ({ cls := "LineAssemblerModel", name := "operand", desc := "()Z" } : Jvm.MethodName)) ∈ lw_gd := u_8 (List.mem_of_getElem? (i := 7) (by decide +kernel)) (by decide +kernel)
theorem q_1929 : (Jvm.Cond.instanceMethod ({ cls := "LineAssemblerModel", name := "operand", desc := "()Z" } : Jvm.MethodName)) ∈ lw_gd := u_8 (List.mem_of_getElem? (i := 9) (by decide +kernel)) (by decide +kernel)
theorem q_1930 : (Jvm.Cond.code ({ cls := "LineAssemblerModel", name := "operand", desc := "()Z" } : Jvm.MethodName) prog_14_method_35_code (3 : Nat) (Option.some Jvm.ClassFile.FieldType.boolean)) ∈ lw_gd := u_8 (List.mem_of_getElem? (i := 10) (by decide +kernel)) (by decide +kernel)
theorem q_1931 : (Jvm.Cond.methodLink "LineAssemblerModel" (501 : Nat) ({ cls := "LineAssemblerModel", name := "name", desc := "()V" } : Jvm.MethodName)) ∈ lw_gd := u_8 (List.mem_of_getElem? (i := 11) (by decide +kernel)) (by decide +kernel)
theorem q_1933 : (Jvm.Cond.instanceMethod ({ cls := "LineAssemblerModel", name := "name", desc := "()V" } : Jvm.MethodName)) ∈ lw_gd := u_8 (List.mem_of_getElem? (i := 13) (by decide +kernel)) (by decide +kernel)
theorem q_1934 : (Jvm.Cond.code ({ cls := "LineAssemblerModel", name := "name", desc := "()V" } : Jvm.MethodName) prog_14_method_34_code (4 : Nat) (Option.none : Option Jvm.ClassFile.FieldType)) ∈ lw_gd := u_8 (List.mem_of_getElem? (i := 14) (by decide +kernel)) (by decide +kernel)
theorem q_1935 : (Jvm.Cond.methodLink "LineAssemblerModel" (470 : Nat) ({ cls := "LineAssemblerModel", name := "valueOf", desc := "(I)I" } : Jvm.MethodName)) ∈ lw_gd := u_8 (List.mem_of_getElem? (i := 15) (by decide +kernel)) (by decide +kernel)
theorem q_1937 : (Jvm.Cond.instanceMethod ({ cls := "LineAssemblerModel", name := "valueOf", desc := "(I)I" } : Jvm.MethodName)) ∈ lw_gd := u_8 (List.mem_of_getElem? (i := 17) (by decide +kernel)) (by decide +kernel)
theorem q_1938 : (Jvm.Cond.code ({ cls := "LineAssemblerModel", name := "valueOf", desc := "(I)I" } : Jvm.MethodName) prog_14_method_26_code (3 : Nat) (Option.some Jvm.ClassFile.FieldType.int)) ∈ lw_gd := u_8 (List.mem_of_getElem? (i := 18) (by decide +kernel)) (by decide +kernel)
theorem q_1943 : (Jvm.Cond.methodLink "LineAssemblerModel" (498 : Nat) ({ cls := "LineAssemblerModel", name := "value", desc := "(I)V" } : Jvm.MethodName)) ∈ lw_gd := u_8 (List.mem_of_getElem? (i := 23) (by decide +kernel)) (by decide +kernel)
theorem q_1945 : (Jvm.Cond.instanceMethod ({ cls := "LineAssemblerModel", name := "value", desc := "(I)V" } : Jvm.MethodName)) ∈ lw_gd := u_8 (List.mem_of_getElem? (i := 25) (by decide +kernel)) (by decide +kernel)
theorem q_1946 : (Jvm.Cond.code ({ cls := "LineAssemblerModel", name := "value", desc := "(I)V" } : Jvm.MethodName) prog_14_method_29_code (2 : Nat) (Option.none : Option Jvm.ClassFile.FieldType)) ∈ lw_gd := u_8 (List.mem_of_getElem? (i := 26) (by decide +kernel)) (by decide +kernel)
theorem q_1947 : (Jvm.Cond.methodLink "LineAssemblerModel" (504 : Nat) ({ cls := "LineAssemblerModel", name := "near", desc := "(IZ)I" } : Jvm.MethodName)) ∈ lw_gd := u_8 (List.mem_of_getElem? (i := 27) (by decide +kernel)) (by decide +kernel)
theorem q_1949 : (Jvm.Cond.instanceMethod ({ cls := "LineAssemblerModel", name := "near", desc := "(IZ)I" } : Jvm.MethodName)) ∈ lw_gd := u_8 (List.mem_of_getElem? (i := 29) (by decide +kernel)) (by decide +kernel)
theorem q_1950 : (Jvm.Cond.code ({ cls := "LineAssemblerModel", name := "near", desc := "(IZ)I" } : Jvm.MethodName) prog_14_method_27_code (7 : Nat) (Option.some Jvm.ClassFile.FieldType.int)) ∈ lw_gd := u_8 (List.mem_of_getElem? (i := 30) (by decide +kernel)) (by decide +kernel)
theorem q_1951 : (Jvm.Cond.methodLink "LineAssemblerModel" (508 : Nat) ({ cls := "LineAssemblerModel", name := "sign", desc := "(I)V" } : Jvm.MethodName)) ∈ lw_gd := u_8 (List.mem_of_getElem? (i := 31) (by decide +kernel)) (by decide +kernel)
theorem q_1953 : (Jvm.Cond.instanceMethod ({ cls := "LineAssemblerModel", name := "sign", desc := "(I)V" } : Jvm.MethodName)) ∈ lw_gd := u_8 (List.mem_of_getElem? (i := 33) (by decide +kernel)) (by decide +kernel)
theorem q_1954 : (Jvm.Cond.code ({ cls := "LineAssemblerModel", name := "sign", desc := "(I)V" } : Jvm.MethodName) prog_14_method_28_code (2 : Nat) (Option.none : Option Jvm.ClassFile.FieldType)) ∈ lw_gd := u_8 (List.mem_of_getElem? (i := 34) (by decide +kernel)) (by decide +kernel)
theorem q_1955 : (Jvm.Cond.constantLong "LineAssemblerModel" (511 : Nat) (584 : Int64)) ∈ lw_gd := u_8 (List.mem_of_getElem? (i := 35) (by decide +kernel)) (by decide +kernel)
theorem q_1956 : (Jvm.Cond.constantLong "LineAssemblerModel" (513 : Nat) (972 : Int64)) ∈ lw_gd := u_8 (List.mem_of_getElem? (i := 36) (by decide +kernel)) (by decide +kernel)
theorem q_1957 : (Jvm.Cond.methodLink "LineAssemblerModel" (518 : Nat) ({ cls := "LineAssemblerModel", name := "bind", desc := "()V" } : Jvm.MethodName)) ∈ lw_gd := u_8 (List.mem_of_getElem? (i := 37) (by decide +kernel)) (by decide +kernel)
theorem q_1959 : (Jvm.Cond.instanceMethod ({ cls := "LineAssemblerModel", name := "bind", desc := "()V" } : Jvm.MethodName)) ∈ lw_gd := u_8 (List.mem_of_getElem? (i := 39) (by decide +kernel)) (by decide +kernel)
theorem q_1960 : (Jvm.Cond.code ({ cls := "LineAssemblerModel", name := "bind", desc := "()V" } : Jvm.MethodName) prog_14_method_33_code (4 : Nat) (Option.none : Option Jvm.ClassFile.FieldType)) ∈ lw_gd := u_8 (List.mem_of_getElem? (i := 40) (by decide +kernel)) (by decide +kernel)
theorem q_1961 : (Jvm.Cond.methodLink "LineAssemblerModel" (525 : Nat) ({ cls := "LineAssemblerModel", name := "rank", desc := "(I)I" } : Jvm.MethodName)) ∈ lw_gd := u_8 (List.mem_of_getElem? (i := 41) (by decide +kernel)) (by decide +kernel)
theorem q_1962 : (Jvm.Cond.static ({ cls := "LineAssemblerModel", name := "rank", desc := "(I)I" } : Jvm.MethodName)) ∈ lw_gd := u_8 (List.mem_of_getElem? (i := 42) (by decide +kernel)) (by decide +kernel)
theorem q_1963 : (Jvm.Cond.code ({ cls := "LineAssemblerModel", name := "rank", desc := "(I)I" } : Jvm.MethodName) prog_14_method_30_code (1 : Nat) (Option.some Jvm.ClassFile.FieldType.int)) ∈ lw_gd := u_8 (List.mem_of_getElem? (i := 43) (by decide +kernel)) (by decide +kernel)
theorem q_1964 : (Jvm.Cond.methodLink "LineAssemblerModel" (528 : Nat) ({ cls := "LineAssemblerModel", name := "join", desc := "()V" } : Jvm.MethodName)) ∈ lw_gd := u_8 (List.mem_of_getElem? (i := 44) (by decide +kernel)) (by decide +kernel)
theorem q_1966 : (Jvm.Cond.instanceMethod ({ cls := "LineAssemblerModel", name := "join", desc := "()V" } : Jvm.MethodName)) ∈ lw_gd := u_8 (List.mem_of_getElem? (i := 46) (by decide +kernel)) (by decide +kernel)
theorem q_1967 : (Jvm.Cond.code ({ cls := "LineAssemblerModel", name := "join", desc := "()V" } : Jvm.MethodName) prog_14_method_32_code (2 : Nat) (Option.none : Option Jvm.ClassFile.FieldType)) ∈ lw_gd := u_8 (List.mem_of_getElem? (i := 47) (by decide +kernel)) (by decide +kernel)
theorem qs_65 : Cond.selects "LineAssemblerModel" (⟨"LineAssemblerModel", "find", "(II)I"⟩ : MethodName) ⟨"LineAssemblerModel", "find", "(II)I"⟩ ∈ lw_gd := lw_gds (List.mem_of_getElem? (i := 65) (by decide +kernel)) (by decide +kernel)
theorem qs_77 : Cond.selects "LineAssemblerModel" (⟨"LineAssemblerModel", "operand", "()Z"⟩ : MethodName) ⟨"LineAssemblerModel", "operand", "()Z"⟩ ∈ lw_gd := lw_gds (List.mem_of_getElem? (i := 77) (by decide +kernel)) (by decide +kernel)
theorem qs_78 : Cond.selects "LineAssemblerModel" (⟨"LineAssemblerModel", "name", "()V"⟩ : MethodName) ⟨"LineAssemblerModel", "name", "()V"⟩ ∈ lw_gd := lw_gds (List.mem_of_getElem? (i := 78) (by decide +kernel)) (by decide +kernel)
theorem qs_79 : Cond.selects "LineAssemblerModel" (⟨"LineAssemblerModel", "valueOf", "(I)I"⟩ : MethodName) ⟨"LineAssemblerModel", "valueOf", "(I)I"⟩ ∈ lw_gd := lw_gds (List.mem_of_getElem? (i := 79) (by decide +kernel)) (by decide +kernel)
theorem qs_81 : Cond.selects "LineAssemblerModel" (⟨"LineAssemblerModel", "value", "(I)V"⟩ : MethodName) ⟨"LineAssemblerModel", "value", "(I)V"⟩ ∈ lw_gd := lw_gds (List.mem_of_getElem? (i := 81) (by decide +kernel)) (by decide +kernel)
theorem qs_82 : Cond.selects "LineAssemblerModel" (⟨"LineAssemblerModel", "near", "(IZ)I"⟩ : MethodName) ⟨"LineAssemblerModel", "near", "(IZ)I"⟩ ∈ lw_gd := lw_gds (List.mem_of_getElem? (i := 82) (by decide +kernel)) (by decide +kernel)
theorem qs_83 : Cond.selects "LineAssemblerModel" (⟨"LineAssemblerModel", "sign", "(I)V"⟩ : MethodName) ⟨"LineAssemblerModel", "sign", "(I)V"⟩ ∈ lw_gd := lw_gds (List.mem_of_getElem? (i := 83) (by decide +kernel)) (by decide +kernel)
theorem qs_84 : Cond.selects "LineAssemblerModel" (⟨"LineAssemblerModel", "bind", "()V"⟩ : MethodName) ⟨"LineAssemblerModel", "bind", "()V"⟩ ∈ lw_gd := lw_gds (List.mem_of_getElem? (i := 84) (by decide +kernel)) (by decide +kernel)
theorem qs_85 : Cond.selects "LineAssemblerModel" (⟨"LineAssemblerModel", "join", "()V"⟩ : MethodName) ⟨"LineAssemblerModel", "join", "()V"⟩ ∈ lw_gd := lw_gds (List.mem_of_getElem? (i := 85) (by decide +kernel)) (by decide +kernel)
abbrev cM_valueOf : ByteArray := prog_14_method_26_code
def yM_valueOf : MethodName := ⟨RM, "valueOf", "(I)I"⟩
abbrev rm_valueOf : Room := { frames := 1, cells := 0, slots := 0, locals := 20 }
theorem dM_valueOf_0 : decode cM_valueOf 0 = .ok (.aload_n 0, 1) := by decide +kernel
theorem dM_valueOf_1 : decode cM_valueOf 1 = .ok (.getfield 339, 3) := by decide +kernel
theorem dM_valueOf_4 : decode cM_valueOf 4 = .ok (.iload_n 1, 1) := by decide +kernel
theorem dM_valueOf_5 : decode cM_valueOf 5 = .ok (.iaload, 1) := by decide +kernel
theorem dM_valueOf_6 : decode cM_valueOf 6 = .ok (.bipush 13, 2) := by decide +kernel
theorem dM_valueOf_8 : decode cM_valueOf 8 = .ok (.ishr, 1) := by decide +kernel
theorem dM_valueOf_9 : decode cM_valueOf 9 = .ok (.istore_n 2, 1) := by decide +kernel
theorem dM_valueOf_10 : decode cM_valueOf 10 = .ok (.iload_n 2, 1) := by decide +kernel
theorem dM_valueOf_11 : decode cM_valueOf 11 = .ok (.iconst 2, 1) := by decide +kernel
theorem dM_valueOf_12 : decode cM_valueOf 12 = .ok (.if_icmp .ne (12), 3) := by decide +kernel
theorem dM_valueOf_15 : decode cM_valueOf 15 = .ok (.aload_n 0, 1) := by decide +kernel
theorem dM_valueOf_16 : decode cM_valueOf 16 = .ok (.getfield 342, 3) := by decide +kernel
theorem dM_valueOf_19 : decode cM_valueOf 19 = .ok (.iload_n 1, 1) := by decide +kernel
theorem dM_valueOf_20 : decode cM_valueOf 20 = .ok (.iaload, 1) := by decide +kernel
theorem dM_valueOf_21 : decode cM_valueOf 21 = .ok (.goto (33), 3) := by decide +kernel
theorem dM_valueOf_24 : decode cM_valueOf 24 = .ok (.iload_n 2, 1) := by decide +kernel
theorem dM_valueOf_25 : decode cM_valueOf 25 = .ok (.iconst 1, 1) := by decide +kernel
theorem dM_valueOf_26 : decode cM_valueOf 26 = .ok (.if_icmp .eq (8), 3) := by decide +kernel
theorem dM_valueOf_29 : decode cM_valueOf 29 = .ok (.iload_n 2, 1) := by decide +kernel
theorem dM_valueOf_30 : decode cM_valueOf 30 = .ok (.iconst 4, 1) := by decide +kernel
theorem dM_valueOf_31 : decode cM_valueOf 31 = .ok (.if_icmp .ne (17), 3) := by decide +kernel
theorem dM_valueOf_34 : decode cM_valueOf 34 = .ok (.aload_n 0, 1) := by decide +kernel
theorem dM_valueOf_35 : decode cM_valueOf 35 = .ok (.invokevirtual 459, 3) := by decide +kernel
theorem dM_valueOf_38 : decode cM_valueOf 38 = .ok (.aload_n 0, 1) := by decide +kernel
theorem dM_valueOf_39 : decode cM_valueOf 39 = .ok (.getfield 342, 3) := by decide +kernel
theorem dM_valueOf_42 : decode cM_valueOf 42 = .ok (.iload_n 1, 1) := by decide +kernel
theorem dM_valueOf_43 : decode cM_valueOf 43 = .ok (.iaload, 1) := by decide +kernel
theorem dM_valueOf_44 : decode cM_valueOf 44 = .ok (.iadd, 1) := by decide +kernel
theorem dM_valueOf_45 : decode cM_valueOf 45 = .ok (.goto (9), 3) := by decide +kernel
theorem dM_valueOf_48 : decode cM_valueOf 48 = .ok (.aload_n 0, 1) := by decide +kernel
theorem dM_valueOf_49 : decode cM_valueOf 49 = .ok (.getfield 342, 3) := by decide +kernel
theorem dM_valueOf_52 : decode cM_valueOf 52 = .ok (.iload_n 1, 1) := by decide +kernel
theorem dM_valueOf_53 : decode cM_valueOf 53 = .ok (.iaload, 1) := by decide +kernel
theorem dM_valueOf_54 : decode cM_valueOf 54 = .ok (.ireturn, 1) := by decide +kernel
abbrev cM_name : ByteArray := prog_14_method_34_code
def yM_name : MethodName := ⟨RM, "name", "()V"⟩
abbrev rm_name : Room := { frames := 4, cells := 0, slots := 0, locals := 87 }
theorem dM_name_0 : decode cM_name 0 = .ok (.aload_n 0, 1) := by decide +kernel
theorem dM_name_1 : decode cM_name 1 = .ok (.getfield 381, 3) := by decide +kernel
theorem dM_name_4 : decode cM_name 4 = .ok (.aload_n 0, 1) := by decide +kernel
theorem dM_name_5 : decode cM_name 5 = .ok (.getfield 378, 3) := by decide +kernel
theorem dM_name_8 : decode cM_name 8 = .ok (.isub, 1) := by decide +kernel
theorem dM_name_9 : decode cM_name 9 = .ok (.iconst 1, 1) := by decide +kernel
theorem dM_name_10 : decode cM_name 10 = .ok (.if_icmp .ne (21), 3) := by decide +kernel
theorem dM_name_13 : decode cM_name 13 = .ok (.aload_n 0, 1) := by decide +kernel
theorem dM_name_14 : decode cM_name 14 = .ok (.getfield 327, 3) := by decide +kernel
theorem dM_name_17 : decode cM_name 17 = .ok (.aload_n 0, 1) := by decide +kernel
theorem dM_name_18 : decode cM_name 18 = .ok (.getfield 378, 3) := by decide +kernel
theorem dM_name_21 : decode cM_name 21 = .ok (.caload, 1) := by decide +kernel
theorem dM_name_22 : decode cM_name 22 = .ok (.bipush 46, 2) := by decide +kernel
theorem dM_name_24 : decode cM_name 24 = .ok (.if_icmp .ne (7), 3) := by decide +kernel
theorem dM_name_27 : decode cM_name 27 = .ok (.iconst 1, 1) := by decide +kernel
theorem dM_name_28 : decode cM_name 28 = .ok (.goto (4), 3) := by decide +kernel
theorem dM_name_31 : decode cM_name 31 = .ok (.iconst 0, 1) := by decide +kernel
theorem dM_name_32 : decode cM_name 32 = .ok (.istore_n 1, 1) := by decide +kernel
theorem dM_name_33 : decode cM_name 33 = .ok (.iload_n 1, 1) := by decide +kernel
theorem dM_name_34 : decode cM_name 34 = .ok (.ifCond .ne (18), 3) := by decide +kernel
theorem dM_name_37 : decode cM_name 37 = .ok (.aload_n 0, 1) := by decide +kernel
theorem dM_name_38 : decode cM_name 38 = .ok (.aload_n 0, 1) := by decide +kernel
theorem dM_name_39 : decode cM_name 39 = .ok (.getfield 378, 3) := by decide +kernel
theorem dM_name_42 : decode cM_name 42 = .ok (.aload_n 0, 1) := by decide +kernel
theorem dM_name_43 : decode cM_name 43 = .ok (.getfield 381, 3) := by decide +kernel
theorem dM_name_46 : decode cM_name 46 = .ok (.invokevirtual 486, 3) := by decide +kernel
theorem dM_name_49 : decode cM_name 49 = .ok (.ifCond .lt (7), 3) := by decide +kernel
theorem dM_name_52 : decode cM_name 52 = .ok (.iconst (-1), 1) := by decide +kernel
theorem dM_name_53 : decode cM_name 53 = .ok (.goto (15), 3) := by decide +kernel
theorem dM_name_56 : decode cM_name 56 = .ok (.aload_n 0, 1) := by decide +kernel
theorem dM_name_57 : decode cM_name 57 = .ok (.aload_n 0, 1) := by decide +kernel
theorem dM_name_58 : decode cM_name 58 = .ok (.getfield 378, 3) := by decide +kernel
theorem dM_name_61 : decode cM_name 61 = .ok (.aload_n 0, 1) := by decide +kernel
theorem dM_name_62 : decode cM_name 62 = .ok (.getfield 381, 3) := by decide +kernel
theorem dM_name_65 : decode cM_name 65 = .ok (.invokevirtual 489, 3) := by decide +kernel
theorem dM_name_68 : decode cM_name 68 = .ok (.istore_n 2, 1) := by decide +kernel
theorem dM_name_69 : decode cM_name 69 = .ok (.iload_n 2, 1) := by decide +kernel
theorem dM_name_70 : decode cM_name 70 = .ok (.ifCond .lt (20), 3) := by decide +kernel
theorem dM_name_73 : decode cM_name 73 = .ok (.aload_n 0, 1) := by decide +kernel
theorem dM_name_74 : decode cM_name 74 = .ok (.getfield 339, 3) := by decide +kernel
theorem dM_name_77 : decode cM_name 77 = .ok (.iload_n 2, 1) := by decide +kernel
theorem dM_name_78 : decode cM_name 78 = .ok (.iaload, 1) := by decide +kernel
theorem dM_name_79 : decode cM_name 79 = .ok (.bipush 13, 2) := by decide +kernel
theorem dM_name_81 : decode cM_name 81 = .ok (.ishr, 1) := by decide +kernel
theorem dM_name_82 : decode cM_name 82 = .ok (.iconst 2, 1) := by decide +kernel
theorem dM_name_83 : decode cM_name 83 = .ok (.if_icmp .ne (7), 3) := by decide +kernel
theorem dM_name_86 : decode cM_name 86 = .ok (.iconst 1, 1) := by decide +kernel
theorem dM_name_87 : decode cM_name 87 = .ok (.goto (4), 3) := by decide +kernel
theorem dM_name_90 : decode cM_name 90 = .ok (.iconst 0, 1) := by decide +kernel
theorem dM_name_91 : decode cM_name 91 = .ok (.istore_n 3, 1) := by decide +kernel
theorem dM_name_92 : decode cM_name 92 = .ok (.aload_n 0, 1) := by decide +kernel
theorem dM_name_93 : decode cM_name 93 = .ok (.aload_n 0, 1) := by decide +kernel
theorem dM_name_94 : decode cM_name 94 = .ok (.getfield 492, 3) := by decide +kernel
theorem dM_name_97 : decode cM_name 97 = .ok (.ifCond .ne (7), 3) := by decide +kernel
theorem dM_name_100 : decode cM_name 100 = .ok (.iload_n 3, 1) := by decide +kernel
theorem dM_name_101 : decode cM_name 101 = .ok (.ifCond .ne (7), 3) := by decide +kernel
theorem dM_name_104 : decode cM_name 104 = .ok (.iconst 1, 1) := by decide +kernel
theorem dM_name_105 : decode cM_name 105 = .ok (.goto (4), 3) := by decide +kernel
theorem dM_name_108 : decode cM_name 108 = .ok (.iconst 0, 1) := by decide +kernel
theorem dM_name_109 : decode cM_name 109 = .ok (.putfield 492, 3) := by decide +kernel
theorem dM_name_112 : decode cM_name 112 = .ok (.aload_n 0, 1) := by decide +kernel
theorem dM_name_113 : decode cM_name 113 = .ok (.aload_n 0, 1) := by decide +kernel
theorem dM_name_114 : decode cM_name 114 = .ok (.getfield 466, 3) := by decide +kernel
theorem dM_name_117 : decode cM_name 117 = .ok (.ifCond .ne (11), 3) := by decide +kernel
theorem dM_name_120 : decode cM_name 120 = .ok (.iload_n 1, 1) := by decide +kernel
theorem dM_name_121 : decode cM_name 121 = .ok (.ifCond .ne (11), 3) := by decide +kernel
theorem dM_name_124 : decode cM_name 124 = .ok (.iload_n 2, 1) := by decide +kernel
theorem dM_name_125 : decode cM_name 125 = .ok (.ifCond .ge (7), 3) := by decide +kernel
theorem dM_name_128 : decode cM_name 128 = .ok (.iconst 1, 1) := by decide +kernel
theorem dM_name_129 : decode cM_name 129 = .ok (.goto (4), 3) := by decide +kernel
theorem dM_name_132 : decode cM_name 132 = .ok (.iconst 0, 1) := by decide +kernel
theorem dM_name_133 : decode cM_name 133 = .ok (.putfield 466, 3) := by decide +kernel
theorem dM_name_136 : decode cM_name 136 = .ok (.aload_n 0, 1) := by decide +kernel
theorem dM_name_137 : decode cM_name 137 = .ok (.iload_n 1, 1) := by decide +kernel
theorem dM_name_138 : decode cM_name 138 = .ok (.ifCond .eq (10), 3) := by decide +kernel
theorem dM_name_141 : decode cM_name 141 = .ok (.aload_n 0, 1) := by decide +kernel
theorem dM_name_142 : decode cM_name 142 = .ok (.getfield 495, 3) := by decide +kernel
theorem dM_name_145 : decode cM_name 145 = .ok (.goto (16), 3) := by decide +kernel
theorem dM_name_148 : decode cM_name 148 = .ok (.iload_n 2, 1) := by decide +kernel
theorem dM_name_149 : decode cM_name 149 = .ok (.ifCond .ge (7), 3) := by decide +kernel
theorem dM_name_152 : decode cM_name 152 = .ok (.iconst 0, 1) := by decide +kernel
theorem dM_name_153 : decode cM_name 153 = .ok (.goto (8), 3) := by decide +kernel
theorem dM_name_156 : decode cM_name 156 = .ok (.aload_n 0, 1) := by decide +kernel
theorem dM_name_157 : decode cM_name 157 = .ok (.iload_n 2, 1) := by decide +kernel
theorem dM_name_158 : decode cM_name 158 = .ok (.invokevirtual 470, 3) := by decide +kernel
theorem dM_name_161 : decode cM_name 161 = .ok (.invokevirtual 498, 3) := by decide +kernel
theorem dM_name_164 : decode cM_name 164 = .ok (.return_, 1) := by decide +kernel
abbrev cM_near : ByteArray := prog_14_method_27_code
def yM_near : MethodName := ⟨RM, "near", "(IZ)I"⟩
abbrev rm_near : Room := { frames := 2, cells := 0, slots := 0, locals := 42 }
theorem dM_near_0 : decode cM_near 0 = .ok (.aload_n 0, 1) := by decide +kernel
theorem dM_near_1 : decode cM_near 1 = .ok (.getfield 330, 3) := by decide +kernel
theorem dM_near_4 : decode cM_near 4 = .ok (.aload_n 0, 1) := by decide +kernel
theorem dM_near_5 : decode cM_near 5 = .ok (.getfield 463, 3) := by decide +kernel
theorem dM_near_8 : decode cM_near 8 = .ok (.iaload, 1) := by decide +kernel
theorem dM_near_9 : decode cM_near 9 = .ok (.sipush 8191, 3) := by decide +kernel
theorem dM_near_12 : decode cM_near 12 = .ok (.iand, 1) := by decide +kernel
theorem dM_near_13 : decode cM_near 13 = .ok (.istore_n 3, 1) := by decide +kernel
theorem dM_near_14 : decode cM_near 14 = .ok (.iconst (-1), 1) := by decide +kernel
theorem dM_near_15 : decode cM_near 15 = .ok (.istore 4, 2) := by decide +kernel
theorem dM_near_17 : decode cM_near 17 = .ok (.iconst 0, 1) := by decide +kernel
theorem dM_near_18 : decode cM_near 18 = .ok (.istore 5, 2) := by decide +kernel
theorem dM_near_20 : decode cM_near 20 = .ok (.iload 5, 2) := by decide +kernel
theorem dM_near_22 : decode cM_near 22 = .ok (.aload_n 0, 1) := by decide +kernel
theorem dM_near_23 : decode cM_near 23 = .ok (.getfield 449, 3) := by decide +kernel
theorem dM_near_26 : decode cM_near 26 = .ok (.if_icmp .ge (81), 3) := by decide +kernel
theorem dM_near_29 : decode cM_near 29 = .ok (.aload_n 0, 1) := by decide +kernel
theorem dM_near_30 : decode cM_near 30 = .ok (.getfield 339, 3) := by decide +kernel
theorem dM_near_33 : decode cM_near 33 = .ok (.iload 5, 2) := by decide +kernel
theorem dM_near_35 : decode cM_near 35 = .ok (.iaload, 1) := by decide +kernel
theorem dM_near_36 : decode cM_near 36 = .ok (.sipush 8191, 3) := by decide +kernel
theorem dM_near_39 : decode cM_near 39 = .ok (.iand, 1) := by decide +kernel
theorem dM_near_40 : decode cM_near 40 = .ok (.istore 6, 2) := by decide +kernel
theorem dM_near_42 : decode cM_near 42 = .ok (.aload_n 0, 1) := by decide +kernel
theorem dM_near_43 : decode cM_near 43 = .ok (.getfield 339, 3) := by decide +kernel
theorem dM_near_46 : decode cM_near 46 = .ok (.iload 5, 2) := by decide +kernel
theorem dM_near_48 : decode cM_near 48 = .ok (.iaload, 1) := by decide +kernel
theorem dM_near_49 : decode cM_near 49 = .ok (.bipush 13, 2) := by decide +kernel
theorem dM_near_51 : decode cM_near 51 = .ok (.ishr, 1) := by decide +kernel
theorem dM_near_52 : decode cM_near 52 = .ok (.iconst 3, 1) := by decide +kernel
theorem dM_near_53 : decode cM_near 53 = .ok (.if_icmp .lt (48), 3) := by decide +kernel
theorem dM_near_56 : decode cM_near 56 = .ok (.aload_n 0, 1) := by decide +kernel
theorem dM_near_57 : decode cM_near 57 = .ok (.getfield 327, 3) := by decide +kernel
theorem dM_near_60 : decode cM_near 60 = .ok (.iload 6, 2) := by decide +kernel
theorem dM_near_62 : decode cM_near 62 = .ok (.caload, 1) := by decide +kernel
theorem dM_near_63 : decode cM_near 63 = .ok (.bipush 48, 2) := by decide +kernel
theorem dM_near_65 : decode cM_near 65 = .ok (.isub, 1) := by decide +kernel
theorem dM_near_66 : decode cM_near 66 = .ok (.iload_n 1, 1) := by decide +kernel
theorem dM_near_67 : decode cM_near 67 = .ok (.if_icmp .ne (34), 3) := by decide +kernel
theorem dM_near_70 : decode cM_near 70 = .ok (.iload_n 2, 1) := by decide +kernel
theorem dM_near_71 : decode cM_near 71 = .ok (.iload 6, 2) := by decide +kernel
theorem dM_near_73 : decode cM_near 73 = .ok (.iload_n 3, 1) := by decide +kernel
theorem dM_near_74 : decode cM_near 74 = .ok (.if_icmp .le (7), 3) := by decide +kernel
theorem dM_near_77 : decode cM_near 77 = .ok (.iconst 1, 1) := by decide +kernel
theorem dM_near_78 : decode cM_near 78 = .ok (.goto (4), 3) := by decide +kernel
theorem dM_near_81 : decode cM_near 81 = .ok (.iconst 0, 1) := by decide +kernel
theorem dM_near_82 : decode cM_near 82 = .ok (.if_icmp .ne (19), 3) := by decide +kernel
theorem dM_near_85 : decode cM_near 85 = .ok (.iload_n 2, 1) := by decide +kernel
theorem dM_near_86 : decode cM_near 86 = .ok (.ifCond .eq (11), 3) := by decide +kernel
theorem dM_near_89 : decode cM_near 89 = .ok (.iload 4, 2) := by decide +kernel
theorem dM_near_91 : decode cM_near 91 = .ok (.ifCond .lt (6), 3) := by decide +kernel
theorem dM_near_94 : decode cM_near 94 = .ok (.goto (7), 3) := by decide +kernel
theorem dM_near_97 : decode cM_near 97 = .ok (.iload 5, 2) := by decide +kernel
theorem dM_near_99 : decode cM_near 99 = .ok (.istore 4, 2) := by decide +kernel
theorem dM_near_101 : decode cM_near 101 = .ok (.iinc 5 (1), 3) := by decide +kernel
theorem dM_near_104 : decode cM_near 104 = .ok (.goto (-84), 3) := by decide +kernel
theorem dM_near_107 : decode cM_near 107 = .ok (.aload_n 0, 1) := by decide +kernel
theorem dM_near_108 : decode cM_near 108 = .ok (.aload_n 0, 1) := by decide +kernel
theorem dM_near_109 : decode cM_near 109 = .ok (.getfield 466, 3) := by decide +kernel
theorem dM_near_112 : decode cM_near 112 = .ok (.ifCond .ne (8), 3) := by decide +kernel
theorem dM_near_115 : decode cM_near 115 = .ok (.iload 4, 2) := by decide +kernel
theorem dM_near_117 : decode cM_near 117 = .ok (.ifCond .ge (7), 3) := by decide +kernel
theorem dM_near_120 : decode cM_near 120 = .ok (.iconst 1, 1) := by decide +kernel
theorem dM_near_121 : decode cM_near 121 = .ok (.goto (4), 3) := by decide +kernel
theorem dM_near_124 : decode cM_near 124 = .ok (.iconst 0, 1) := by decide +kernel
theorem dM_near_125 : decode cM_near 125 = .ok (.putfield 466, 3) := by decide +kernel
theorem dM_near_128 : decode cM_near 128 = .ok (.iload 4, 2) := by decide +kernel
theorem dM_near_130 : decode cM_near 130 = .ok (.ifCond .ge (7), 3) := by decide +kernel
theorem dM_near_133 : decode cM_near 133 = .ok (.iconst 0, 1) := by decide +kernel
theorem dM_near_134 : decode cM_near 134 = .ok (.goto (9), 3) := by decide +kernel
theorem dM_near_137 : decode cM_near 137 = .ok (.aload_n 0, 1) := by decide +kernel
theorem dM_near_138 : decode cM_near 138 = .ok (.iload 4, 2) := by decide +kernel
theorem dM_near_140 : decode cM_near 140 = .ok (.invokevirtual 470, 3) := by decide +kernel
theorem dM_near_143 : decode cM_near 143 = .ok (.ireturn, 1) := by decide +kernel
abbrev cM_sign : ByteArray := prog_14_method_28_code
def yM_sign : MethodName := ⟨RM, "sign", "(I)V"⟩
abbrev rm_sign : Room := { frames := 0, cells := 0, slots := 0, locals := 0 }
theorem dM_sign_0 : decode cM_sign 0 = .ok (.aload_n 0, 1) := by decide +kernel
theorem dM_sign_1 : decode cM_sign 1 = .ok (.getfield 345, 3) := by decide +kernel
theorem dM_sign_4 : decode cM_sign 4 = .ok (.aload_n 0, 1) := by decide +kernel
theorem dM_sign_5 : decode cM_sign 5 = .ok (.getfield 473, 3) := by decide +kernel
theorem dM_sign_8 : decode cM_sign 8 = .ok (.iload_n 1, 1) := by decide +kernel
theorem dM_sign_9 : decode cM_sign 9 = .ok (.iastore, 1) := by decide +kernel
theorem dM_sign_10 : decode cM_sign 10 = .ok (.aload_n 0, 1) := by decide +kernel
theorem dM_sign_11 : decode cM_sign 11 = .ok (.dup, 1) := by decide +kernel
theorem dM_sign_12 : decode cM_sign 12 = .ok (.getfield 473, 3) := by decide +kernel
theorem dM_sign_15 : decode cM_sign 15 = .ok (.iconst 1, 1) := by decide +kernel
theorem dM_sign_16 : decode cM_sign 16 = .ok (.iadd, 1) := by decide +kernel
theorem dM_sign_17 : decode cM_sign 17 = .ok (.putfield 473, 3) := by decide +kernel
theorem dM_sign_20 : decode cM_sign 20 = .ok (.return_, 1) := by decide +kernel
abbrev cM_operand : ByteArray := prog_14_method_35_code
def yM_operand : MethodName := ⟨RM, "operand", "()Z"⟩
abbrev rm_operand : Room := { frames := 6, cells := 0, slots := 0, locals := 135 }
theorem dM_operand_0 : decode cM_operand 0 = .ok (.aload_n 0, 1) := by decide +kernel
theorem dM_operand_1 : decode cM_operand 1 = .ok (.getfield 375, 3) := by decide +kernel
theorem dM_operand_4 : decode cM_operand 4 = .ok (.lookupswitch (231) #[(1, 68), (2, 75), (3, 86), (37, 148), (40, 127), (45, 134), (126, 141)], 68) := by decide +kernel
theorem dM_operand_72 : decode cM_operand 72 = .ok (.aload_n 0, 1) := by decide +kernel
theorem dM_operand_73 : decode cM_operand 73 = .ok (.invokevirtual 501, 3) := by decide +kernel
theorem dM_operand_76 : decode cM_operand 76 = .ok (.goto (166), 3) := by decide +kernel
theorem dM_operand_79 : decode cM_operand 79 = .ok (.aload_n 0, 1) := by decide +kernel
theorem dM_operand_80 : decode cM_operand 80 = .ok (.aload_n 0, 1) := by decide +kernel
theorem dM_operand_81 : decode cM_operand 81 = .ok (.getfield 409, 3) := by decide +kernel
theorem dM_operand_84 : decode cM_operand 84 = .ok (.invokevirtual 498, 3) := by decide +kernel
theorem dM_operand_87 : decode cM_operand 87 = .ok (.goto (155), 3) := by decide +kernel
theorem dM_operand_90 : decode cM_operand 90 = .ok (.aload_n 0, 1) := by decide +kernel
theorem dM_operand_91 : decode cM_operand 91 = .ok (.iconst 1, 1) := by decide +kernel
theorem dM_operand_92 : decode cM_operand 92 = .ok (.putfield 492, 3) := by decide +kernel
theorem dM_operand_95 : decode cM_operand 95 = .ok (.aload_n 0, 1) := by decide +kernel
theorem dM_operand_96 : decode cM_operand 96 = .ok (.aload_n 0, 1) := by decide +kernel
theorem dM_operand_97 : decode cM_operand 97 = .ok (.aload_n 0, 1) := by decide +kernel
theorem dM_operand_98 : decode cM_operand 98 = .ok (.getfield 409, 3) := by decide +kernel
theorem dM_operand_101 : decode cM_operand 101 = .ok (.aload_n 0, 1) := by decide +kernel
theorem dM_operand_102 : decode cM_operand 102 = .ok (.getfield 327, 3) := by decide +kernel
theorem dM_operand_105 : decode cM_operand 105 = .ok (.aload_n 0, 1) := by decide +kernel
theorem dM_operand_106 : decode cM_operand 106 = .ok (.getfield 381, 3) := by decide +kernel
theorem dM_operand_109 : decode cM_operand 109 = .ok (.iconst 1, 1) := by decide +kernel
theorem dM_operand_110 : decode cM_operand 110 = .ok (.isub, 1) := by decide +kernel
theorem dM_operand_111 : decode cM_operand 111 = .ok (.caload, 1) := by decide +kernel
theorem dM_operand_112 : decode cM_operand 112 = .ok (.bipush 102, 2) := by decide +kernel
theorem dM_operand_114 : decode cM_operand 114 = .ok (.if_icmp .ne (7), 3) := by decide +kernel
theorem dM_operand_117 : decode cM_operand 117 = .ok (.iconst 1, 1) := by decide +kernel
theorem dM_operand_118 : decode cM_operand 118 = .ok (.goto (4), 3) := by decide +kernel
theorem dM_operand_121 : decode cM_operand 121 = .ok (.iconst 0, 1) := by decide +kernel
theorem dM_operand_122 : decode cM_operand 122 = .ok (.invokevirtual 504, 3) := by decide +kernel
theorem dM_operand_125 : decode cM_operand 125 = .ok (.invokevirtual 498, 3) := by decide +kernel
theorem dM_operand_128 : decode cM_operand 128 = .ok (.goto (114), 3) := by decide +kernel
theorem dM_operand_131 : decode cM_operand 131 = .ok (.aload_n 0, 1) := by decide +kernel
theorem dM_operand_132 : decode cM_operand 132 = .ok (.iconst 1, 1) := by decide +kernel
theorem dM_operand_133 : decode cM_operand 133 = .ok (.invokevirtual 508, 3) := by decide +kernel
theorem dM_operand_136 : decode cM_operand 136 = .ok (.iconst 0, 1) := by decide +kernel
theorem dM_operand_137 : decode cM_operand 137 = .ok (.ireturn, 1) := by decide +kernel
theorem dM_operand_138 : decode cM_operand 138 = .ok (.aload_n 0, 1) := by decide +kernel
theorem dM_operand_139 : decode cM_operand 139 = .ok (.iconst 2, 1) := by decide +kernel
theorem dM_operand_140 : decode cM_operand 140 = .ok (.invokevirtual 508, 3) := by decide +kernel
theorem dM_operand_143 : decode cM_operand 143 = .ok (.iconst 0, 1) := by decide +kernel
theorem dM_operand_144 : decode cM_operand 144 = .ok (.ireturn, 1) := by decide +kernel
theorem dM_operand_145 : decode cM_operand 145 = .ok (.aload_n 0, 1) := by decide +kernel
theorem dM_operand_146 : decode cM_operand 146 = .ok (.iconst 3, 1) := by decide +kernel
theorem dM_operand_147 : decode cM_operand 147 = .ok (.invokevirtual 508, 3) := by decide +kernel
theorem dM_operand_150 : decode cM_operand 150 = .ok (.iconst 0, 1) := by decide +kernel
theorem dM_operand_151 : decode cM_operand 151 = .ok (.ireturn, 1) := by decide +kernel
theorem dM_operand_152 : decode cM_operand 152 = .ok (.aload_n 0, 1) := by decide +kernel
theorem dM_operand_153 : decode cM_operand 153 = .ok (.invokevirtual 426, 3) := by decide +kernel
theorem dM_operand_156 : decode cM_operand 156 = .ok (.aload_n 0, 1) := by decide +kernel
theorem dM_operand_157 : decode cM_operand 157 = .ok (.getfield 375, 3) := by decide +kernel
theorem dM_operand_160 : decode cM_operand 160 = .ok (.iconst 1, 1) := by decide +kernel
theorem dM_operand_161 : decode cM_operand 161 = .ok (.if_icmp .ne (18), 3) := by decide +kernel
theorem dM_operand_164 : decode cM_operand 164 = .ok (.aload_n 0, 1) := by decide +kernel
theorem dM_operand_165 : decode cM_operand 165 = .ok (.aload_n 0, 1) := by decide +kernel
theorem dM_operand_166 : decode cM_operand 166 = .ok (.getfield 378, 3) := by decide +kernel
theorem dM_operand_169 : decode cM_operand 169 = .ok (.aload_n 0, 1) := by decide +kernel
theorem dM_operand_170 : decode cM_operand 170 = .ok (.getfield 381, 3) := by decide +kernel
theorem dM_operand_173 : decode cM_operand 173 = .ok (.invokevirtual 433, 3) := by decide +kernel
theorem dM_operand_176 : decode cM_operand 176 = .ok (.goto (4), 3) := by decide +kernel
theorem dM_operand_179 : decode cM_operand 179 = .ok (.lconst 0, 1) := by decide +kernel
theorem dM_operand_180 : decode cM_operand 180 = .ok (.lstore_n 1, 1) := by decide +kernel
theorem dM_operand_181 : decode cM_operand 181 = .ok (.lload_n 1, 1) := by decide +kernel
theorem dM_operand_182 : decode cM_operand 182 = .ok (.ldc2_w 511, 3) := by decide +kernel
theorem dM_operand_185 : decode cM_operand 185 = .ok (.lcmp, 1) := by decide +kernel
theorem dM_operand_186 : decode cM_operand 186 = .ok (.ifCond .eq (16), 3) := by decide +kernel
theorem dM_operand_189 : decode cM_operand 189 = .ok (.lload_n 1, 1) := by decide +kernel
theorem dM_operand_190 : decode cM_operand 190 = .ok (.ldc2_w 513, 3) := by decide +kernel
theorem dM_operand_193 : decode cM_operand 193 = .ok (.lcmp, 1) := by decide +kernel
theorem dM_operand_194 : decode cM_operand 194 = .ok (.ifCond .eq (8), 3) := by decide +kernel
theorem dM_operand_197 : decode cM_operand 197 = .ok (.aload_n 0, 1) := by decide +kernel
theorem dM_operand_198 : decode cM_operand 198 = .ok (.iconst 1, 1) := by decide +kernel
theorem dM_operand_199 : decode cM_operand 199 = .ok (.invokevirtual 429, 3) := by decide +kernel
theorem dM_operand_202 : decode cM_operand 202 = .ok (.aload_n 0, 1) := by decide +kernel
theorem dM_operand_203 : decode cM_operand 203 = .ok (.lload_n 1, 1) := by decide +kernel
theorem dM_operand_204 : decode cM_operand 204 = .ok (.ldc2_w 511, 3) := by decide +kernel
theorem dM_operand_207 : decode cM_operand 207 = .ok (.lcmp, 1) := by decide +kernel
theorem dM_operand_208 : decode cM_operand 208 = .ok (.ifCond .ne (7), 3) := by decide +kernel
theorem dM_operand_211 : decode cM_operand 211 = .ok (.iconst 4, 1) := by decide +kernel
theorem dM_operand_212 : decode cM_operand 212 = .ok (.goto (4), 3) := by decide +kernel
theorem dM_operand_215 : decode cM_operand 215 = .ok (.iconst 5, 1) := by decide +kernel
theorem dM_operand_216 : decode cM_operand 216 = .ok (.invokevirtual 508, 3) := by decide +kernel
theorem dM_operand_219 : decode cM_operand 219 = .ok (.aload_n 0, 1) := by decide +kernel
theorem dM_operand_220 : decode cM_operand 220 = .ok (.bipush 40, 2) := by decide +kernel
theorem dM_operand_222 : decode cM_operand 222 = .ok (.invokevirtual 515, 3) := by decide +kernel
theorem dM_operand_225 : decode cM_operand 225 = .ok (.ifCond .eq (8), 3) := by decide +kernel
theorem dM_operand_228 : decode cM_operand 228 = .ok (.aload_n 0, 1) := by decide +kernel
theorem dM_operand_229 : decode cM_operand 229 = .ok (.iconst 1, 1) := by decide +kernel
theorem dM_operand_230 : decode cM_operand 230 = .ok (.invokevirtual 508, 3) := by decide +kernel
theorem dM_operand_233 : decode cM_operand 233 = .ok (.iconst 0, 1) := by decide +kernel
theorem dM_operand_234 : decode cM_operand 234 = .ok (.ireturn, 1) := by decide +kernel
theorem dM_operand_235 : decode cM_operand 235 = .ok (.aload_n 0, 1) := by decide +kernel
theorem dM_operand_236 : decode cM_operand 236 = .ok (.iconst 1, 1) := by decide +kernel
theorem dM_operand_237 : decode cM_operand 237 = .ok (.invokevirtual 429, 3) := by decide +kernel
theorem dM_operand_240 : decode cM_operand 240 = .ok (.iconst 0, 1) := by decide +kernel
theorem dM_operand_241 : decode cM_operand 241 = .ok (.ireturn, 1) := by decide +kernel
theorem dM_operand_242 : decode cM_operand 242 = .ok (.aload_n 0, 1) := by decide +kernel
theorem dM_operand_243 : decode cM_operand 243 = .ok (.invokevirtual 518, 3) := by decide +kernel
theorem dM_operand_246 : decode cM_operand 246 = .ok (.iconst 1, 1) := by decide +kernel
theorem dM_operand_247 : decode cM_operand 247 = .ok (.ireturn, 1) := by decide +kernel
abbrev cM_rank : ByteArray := prog_14_method_30_code
def yM_rank : MethodName := ⟨RM, "rank", "(I)I"⟩
abbrev rm_rank : Room := { frames := 0, cells := 0, slots := 0, locals := 0 }
theorem dM_rank_0 : decode cM_rank 0 = .ok (.iload_n 0, 1) := by decide +kernel
theorem dM_rank_1 : decode cM_rank 1 = .ok (.bipush 42, 2) := by decide +kernel
theorem dM_rank_3 : decode cM_rank 3 = .ok (.if_icmp .eq (15), 3) := by decide +kernel
theorem dM_rank_6 : decode cM_rank 6 = .ok (.iload_n 0, 1) := by decide +kernel
theorem dM_rank_7 : decode cM_rank 7 = .ok (.bipush 47, 2) := by decide +kernel
theorem dM_rank_9 : decode cM_rank 9 = .ok (.if_icmp .eq (9), 3) := by decide +kernel
theorem dM_rank_12 : decode cM_rank 12 = .ok (.iload_n 0, 1) := by decide +kernel
theorem dM_rank_13 : decode cM_rank 13 = .ok (.bipush 37, 2) := by decide +kernel
theorem dM_rank_15 : decode cM_rank 15 = .ok (.if_icmp .ne (8), 3) := by decide +kernel
theorem dM_rank_18 : decode cM_rank 18 = .ok (.bipush 6, 2) := by decide +kernel
theorem dM_rank_20 : decode cM_rank 20 = .ok (.goto (66), 3) := by decide +kernel
theorem dM_rank_23 : decode cM_rank 23 = .ok (.iload_n 0, 1) := by decide +kernel
theorem dM_rank_24 : decode cM_rank 24 = .ok (.bipush 43, 2) := by decide +kernel
theorem dM_rank_26 : decode cM_rank 26 = .ok (.if_icmp .eq (9), 3) := by decide +kernel
theorem dM_rank_29 : decode cM_rank 29 = .ok (.iload_n 0, 1) := by decide +kernel
theorem dM_rank_30 : decode cM_rank 30 = .ok (.bipush 45, 2) := by decide +kernel
theorem dM_rank_32 : decode cM_rank 32 = .ok (.if_icmp .ne (7), 3) := by decide +kernel
theorem dM_rank_35 : decode cM_rank 35 = .ok (.iconst 5, 1) := by decide +kernel
theorem dM_rank_36 : decode cM_rank 36 = .ok (.goto (50), 3) := by decide +kernel
theorem dM_rank_39 : decode cM_rank 39 = .ok (.iload_n 0, 1) := by decide +kernel
theorem dM_rank_40 : decode cM_rank 40 = .ok (.bipush 6, 2) := by decide +kernel
theorem dM_rank_42 : decode cM_rank 42 = .ok (.if_icmp .eq (9), 3) := by decide +kernel
theorem dM_rank_45 : decode cM_rank 45 = .ok (.iload_n 0, 1) := by decide +kernel
theorem dM_rank_46 : decode cM_rank 46 = .ok (.bipush 7, 2) := by decide +kernel
theorem dM_rank_48 : decode cM_rank 48 = .ok (.if_icmp .ne (7), 3) := by decide +kernel
theorem dM_rank_51 : decode cM_rank 51 = .ok (.iconst 4, 1) := by decide +kernel
theorem dM_rank_52 : decode cM_rank 52 = .ok (.goto (34), 3) := by decide +kernel
theorem dM_rank_55 : decode cM_rank 55 = .ok (.iload_n 0, 1) := by decide +kernel
theorem dM_rank_56 : decode cM_rank 56 = .ok (.bipush 38, 2) := by decide +kernel
theorem dM_rank_58 : decode cM_rank 58 = .ok (.if_icmp .ne (7), 3) := by decide +kernel
theorem dM_rank_61 : decode cM_rank 61 = .ok (.iconst 3, 1) := by decide +kernel
theorem dM_rank_62 : decode cM_rank 62 = .ok (.goto (24), 3) := by decide +kernel
theorem dM_rank_65 : decode cM_rank 65 = .ok (.iload_n 0, 1) := by decide +kernel
theorem dM_rank_66 : decode cM_rank 66 = .ok (.bipush 94, 2) := by decide +kernel
theorem dM_rank_68 : decode cM_rank 68 = .ok (.if_icmp .ne (7), 3) := by decide +kernel
theorem dM_rank_71 : decode cM_rank 71 = .ok (.iconst 2, 1) := by decide +kernel
theorem dM_rank_72 : decode cM_rank 72 = .ok (.goto (14), 3) := by decide +kernel
theorem dM_rank_75 : decode cM_rank 75 = .ok (.iload_n 0, 1) := by decide +kernel
theorem dM_rank_76 : decode cM_rank 76 = .ok (.bipush 124, 2) := by decide +kernel
theorem dM_rank_78 : decode cM_rank 78 = .ok (.if_icmp .ne (7), 3) := by decide +kernel
theorem dM_rank_81 : decode cM_rank 81 = .ok (.iconst 1, 1) := by decide +kernel
theorem dM_rank_82 : decode cM_rank 82 = .ok (.goto (4), 3) := by decide +kernel
theorem dM_rank_85 : decode cM_rank 85 = .ok (.iconst 0, 1) := by decide +kernel
theorem dM_rank_86 : decode cM_rank 86 = .ok (.ireturn, 1) := by decide +kernel
abbrev cM_expression : ByteArray := prog_14_method_36_code
def yM_expression : MethodName := ⟨RM, "expression", "()I"⟩
abbrev rm_expression : Room := { frames := 7, cells := 0, slots := 0, locals := 157 }
theorem dM_expression_0 : decode cM_expression 0 = .ok (.aload_n 0, 1) := by decide +kernel
theorem dM_expression_1 : decode cM_expression 1 = .ok (.iconst 0, 1) := by decide +kernel
theorem dM_expression_2 : decode cM_expression 2 = .ok (.putfield 473, 3) := by decide +kernel
theorem dM_expression_5 : decode cM_expression 5 = .ok (.aload_n 0, 1) := by decide +kernel
theorem dM_expression_6 : decode cM_expression 6 = .ok (.sipush 4100, 3) := by decide +kernel
theorem dM_expression_9 : decode cM_expression 9 = .ok (.putfield 476, 3) := by decide +kernel
theorem dM_expression_12 : decode cM_expression 12 = .ok (.aload_n 0, 1) := by decide +kernel
theorem dM_expression_13 : decode cM_expression 13 = .ok (.iconst 0, 1) := by decide +kernel
theorem dM_expression_14 : decode cM_expression 14 = .ok (.putfield 466, 3) := by decide +kernel
theorem dM_expression_17 : decode cM_expression 17 = .ok (.aload_n 0, 1) := by decide +kernel
theorem dM_expression_18 : decode cM_expression 18 = .ok (.iconst 0, 1) := by decide +kernel
theorem dM_expression_19 : decode cM_expression 19 = .ok (.putfield 479, 3) := by decide +kernel
theorem dM_expression_22 : decode cM_expression 22 = .ok (.aload_n 0, 1) := by decide +kernel
theorem dM_expression_23 : decode cM_expression 23 = .ok (.iconst 0, 1) := by decide +kernel
theorem dM_expression_24 : decode cM_expression 24 = .ok (.putfield 492, 3) := by decide +kernel
theorem dM_expression_27 : decode cM_expression 27 = .ok (.iconst 0, 1) := by decide +kernel
theorem dM_expression_28 : decode cM_expression 28 = .ok (.istore_n 1, 1) := by decide +kernel
theorem dM_expression_29 : decode cM_expression 29 = .ok (.iconst 1, 1) := by decide +kernel
theorem dM_expression_30 : decode cM_expression 30 = .ok (.istore_n 2, 1) := by decide +kernel
theorem dM_expression_31 : decode cM_expression 31 = .ok (.iconst 1, 1) := by decide +kernel
theorem dM_expression_32 : decode cM_expression 32 = .ok (.istore_n 3, 1) := by decide +kernel
theorem dM_expression_33 : decode cM_expression 33 = .ok (.iload_n 3, 1) := by decide +kernel
theorem dM_expression_34 : decode cM_expression 34 = .ok (.ifCond .eq (221), 3) := by decide +kernel
theorem dM_expression_37 : decode cM_expression 37 = .ok (.aload_n 0, 1) := by decide +kernel
theorem dM_expression_38 : decode cM_expression 38 = .ok (.getfield 420, 3) := by decide +kernel
theorem dM_expression_41 : decode cM_expression 41 = .ok (.ifCond .ne (214), 3) := by decide +kernel
theorem dM_expression_44 : decode cM_expression 44 = .ok (.aload_n 0, 1) := by decide +kernel
theorem dM_expression_45 : decode cM_expression 45 = .ok (.getfield 384, 3) := by decide +kernel
theorem dM_expression_48 : decode cM_expression 48 = .ok (.istore 4, 2) := by decide +kernel
theorem dM_expression_50 : decode cM_expression 50 = .ok (.aload_n 0, 1) := by decide +kernel
theorem dM_expression_51 : decode cM_expression 51 = .ok (.invokevirtual 426, 3) := by decide +kernel
theorem dM_expression_54 : decode cM_expression 54 = .ok (.iload_n 2, 1) := by decide +kernel
theorem dM_expression_55 : decode cM_expression 55 = .ok (.ifCond .eq (57), 3) := by decide +kernel
theorem dM_expression_58 : decode cM_expression 58 = .ok (.aload_n 0, 1) := by decide +kernel
theorem dM_expression_59 : decode cM_expression 59 = .ok (.getfield 375, 3) := by decide +kernel
theorem dM_expression_62 : decode cM_expression 62 = .ok (.bipush 40, 2) := by decide +kernel
theorem dM_expression_64 : decode cM_expression 64 = .ok (.if_icmp .eq (12), 3) := by decide +kernel
theorem dM_expression_67 : decode cM_expression 67 = .ok (.aload_n 0, 1) := by decide +kernel
theorem dM_expression_68 : decode cM_expression 68 = .ok (.getfield 375, 3) := by decide +kernel
theorem dM_expression_71 : decode cM_expression 71 = .ok (.bipush 37, 2) := by decide +kernel
theorem dM_expression_73 : decode cM_expression 73 = .ok (.if_icmp .ne (7), 3) := by decide +kernel
theorem dM_expression_76 : decode cM_expression 76 = .ok (.iconst 1, 1) := by decide +kernel
theorem dM_expression_77 : decode cM_expression 77 = .ok (.goto (4), 3) := by decide +kernel
theorem dM_expression_80 : decode cM_expression 80 = .ok (.iconst 0, 1) := by decide +kernel
theorem dM_expression_81 : decode cM_expression 81 = .ok (.istore 5, 2) := by decide +kernel
theorem dM_expression_83 : decode cM_expression 83 = .ok (.aload_n 0, 1) := by decide +kernel
theorem dM_expression_84 : decode cM_expression 84 = .ok (.invokevirtual 521, 3) := by decide +kernel
theorem dM_expression_87 : decode cM_expression 87 = .ok (.ifCond .ne (7), 3) := by decide +kernel
theorem dM_expression_90 : decode cM_expression 90 = .ok (.iconst 1, 1) := by decide +kernel
theorem dM_expression_91 : decode cM_expression 91 = .ok (.goto (4), 3) := by decide +kernel
theorem dM_expression_94 : decode cM_expression 94 = .ok (.iconst 0, 1) := by decide +kernel
theorem dM_expression_95 : decode cM_expression 95 = .ok (.istore_n 2, 1) := by decide +kernel
theorem dM_expression_96 : decode cM_expression 96 = .ok (.iload 5, 2) := by decide +kernel
theorem dM_expression_98 : decode cM_expression 98 = .ok (.ifCond .eq (9), 3) := by decide +kernel
theorem dM_expression_101 : decode cM_expression 101 = .ok (.iload_n 1, 1) := by decide +kernel
theorem dM_expression_102 : decode cM_expression 102 = .ok (.iconst 1, 1) := by decide +kernel
theorem dM_expression_103 : decode cM_expression 103 = .ok (.iadd, 1) := by decide +kernel
theorem dM_expression_104 : decode cM_expression 104 = .ok (.goto (4), 3) := by decide +kernel
theorem dM_expression_107 : decode cM_expression 107 = .ok (.iload_n 1, 1) := by decide +kernel
theorem dM_expression_108 : decode cM_expression 108 = .ok (.istore_n 1, 1) := by decide +kernel
theorem dM_expression_109 : decode cM_expression 109 = .ok (.goto (143), 3) := by decide +kernel
theorem dM_expression_112 : decode cM_expression 112 = .ok (.aload_n 0, 1) := by decide +kernel
theorem dM_expression_113 : decode cM_expression 113 = .ok (.getfield 375, 3) := by decide +kernel
theorem dM_expression_116 : decode cM_expression 116 = .ok (.invokestatic 525, 3) := by decide +kernel
theorem dM_expression_119 : decode cM_expression 119 = .ok (.ifCond .le (61), 3) := by decide +kernel
theorem dM_expression_122 : decode cM_expression 122 = .ok (.aload_n 0, 1) := by decide +kernel
theorem dM_expression_123 : decode cM_expression 123 = .ok (.getfield 375, 3) := by decide +kernel
theorem dM_expression_126 : decode cM_expression 126 = .ok (.ifCond .eq (54), 3) := by decide +kernel
theorem dM_expression_129 : decode cM_expression 129 = .ok (.aload_n 0, 1) := by decide +kernel
theorem dM_expression_130 : decode cM_expression 130 = .ok (.getfield 473, 3) := by decide +kernel
theorem dM_expression_133 : decode cM_expression 133 = .ok (.ifCond .le (34), 3) := by decide +kernel
theorem dM_expression_136 : decode cM_expression 136 = .ok (.aload_n 0, 1) := by decide +kernel
theorem dM_expression_137 : decode cM_expression 137 = .ok (.getfield 345, 3) := by decide +kernel
theorem dM_expression_140 : decode cM_expression 140 = .ok (.aload_n 0, 1) := by decide +kernel
theorem dM_expression_141 : decode cM_expression 141 = .ok (.getfield 473, 3) := by decide +kernel
theorem dM_expression_144 : decode cM_expression 144 = .ok (.iconst 1, 1) := by decide +kernel
theorem dM_expression_145 : decode cM_expression 145 = .ok (.isub, 1) := by decide +kernel
theorem dM_expression_146 : decode cM_expression 146 = .ok (.iaload, 1) := by decide +kernel
theorem dM_expression_147 : decode cM_expression 147 = .ok (.invokestatic 525, 3) := by decide +kernel
theorem dM_expression_150 : decode cM_expression 150 = .ok (.aload_n 0, 1) := by decide +kernel
theorem dM_expression_151 : decode cM_expression 151 = .ok (.getfield 375, 3) := by decide +kernel
theorem dM_expression_154 : decode cM_expression 154 = .ok (.invokestatic 525, 3) := by decide +kernel
theorem dM_expression_157 : decode cM_expression 157 = .ok (.if_icmp .lt (10), 3) := by decide +kernel
theorem dM_expression_160 : decode cM_expression 160 = .ok (.aload_n 0, 1) := by decide +kernel
theorem dM_expression_161 : decode cM_expression 161 = .ok (.invokevirtual 528, 3) := by decide +kernel
theorem dM_expression_164 : decode cM_expression 164 = .ok (.goto (-35), 3) := by decide +kernel
theorem dM_expression_167 : decode cM_expression 167 = .ok (.aload_n 0, 1) := by decide +kernel
theorem dM_expression_168 : decode cM_expression 168 = .ok (.aload_n 0, 1) := by decide +kernel
theorem dM_expression_169 : decode cM_expression 169 = .ok (.getfield 375, 3) := by decide +kernel
theorem dM_expression_172 : decode cM_expression 172 = .ok (.invokevirtual 508, 3) := by decide +kernel
theorem dM_expression_175 : decode cM_expression 175 = .ok (.iconst 1, 1) := by decide +kernel
theorem dM_expression_176 : decode cM_expression 176 = .ok (.istore_n 2, 1) := by decide +kernel
theorem dM_expression_177 : decode cM_expression 177 = .ok (.goto (75), 3) := by decide +kernel
theorem dM_expression_180 : decode cM_expression 180 = .ok (.aload_n 0, 1) := by decide +kernel
theorem dM_expression_181 : decode cM_expression 181 = .ok (.getfield 375, 3) := by decide +kernel
theorem dM_expression_184 : decode cM_expression 184 = .ok (.bipush 41, 2) := by decide +kernel
theorem dM_expression_186 : decode cM_expression 186 = .ok (.if_icmp .ne (49), 3) := by decide +kernel
theorem dM_expression_189 : decode cM_expression 189 = .ok (.iload_n 1, 1) := by decide +kernel
theorem dM_expression_190 : decode cM_expression 190 = .ok (.ifCond .le (45), 3) := by decide +kernel
theorem dM_expression_193 : decode cM_expression 193 = .ok (.aload_n 0, 1) := by decide +kernel
theorem dM_expression_194 : decode cM_expression 194 = .ok (.getfield 345, 3) := by decide +kernel
theorem dM_expression_197 : decode cM_expression 197 = .ok (.aload_n 0, 1) := by decide +kernel
theorem dM_expression_198 : decode cM_expression 198 = .ok (.getfield 473, 3) := by decide +kernel
theorem dM_expression_201 : decode cM_expression 201 = .ok (.iconst 1, 1) := by decide +kernel
theorem dM_expression_202 : decode cM_expression 202 = .ok (.isub, 1) := by decide +kernel
theorem dM_expression_203 : decode cM_expression 203 = .ok (.iaload, 1) := by decide +kernel
theorem dM_expression_204 : decode cM_expression 204 = .ok (.iconst 1, 1) := by decide +kernel
theorem dM_expression_205 : decode cM_expression 205 = .ok (.if_icmp .eq (10), 3) := by decide +kernel
theorem dM_expression_208 : decode cM_expression 208 = .ok (.aload_n 0, 1) := by decide +kernel
theorem dM_expression_209 : decode cM_expression 209 = .ok (.invokevirtual 528, 3) := by decide +kernel
theorem dM_expression_212 : decode cM_expression 212 = .ok (.goto (-19), 3) := by decide +kernel
theorem dM_expression_215 : decode cM_expression 215 = .ok (.aload_n 0, 1) := by decide +kernel
theorem dM_expression_216 : decode cM_expression 216 = .ok (.dup, 1) := by decide +kernel
theorem dM_expression_217 : decode cM_expression 217 = .ok (.getfield 473, 3) := by decide +kernel
theorem dM_expression_220 : decode cM_expression 220 = .ok (.iconst 1, 1) := by decide +kernel
theorem dM_expression_221 : decode cM_expression 221 = .ok (.isub, 1) := by decide +kernel
theorem dM_expression_222 : decode cM_expression 222 = .ok (.putfield 473, 3) := by decide +kernel
theorem dM_expression_225 : decode cM_expression 225 = .ok (.iinc 1 (-1), 3) := by decide +kernel
theorem dM_expression_228 : decode cM_expression 228 = .ok (.aload_n 0, 1) := by decide +kernel
theorem dM_expression_229 : decode cM_expression 229 = .ok (.invokevirtual 518, 3) := by decide +kernel
theorem dM_expression_232 : decode cM_expression 232 = .ok (.goto (20), 3) := by decide +kernel
theorem dM_expression_235 : decode cM_expression 235 = .ok (.iconst 0, 1) := by decide +kernel
theorem dM_expression_236 : decode cM_expression 236 = .ok (.istore_n 3, 1) := by decide +kernel
theorem dM_expression_237 : decode cM_expression 237 = .ok (.iload_n 1, 1) := by decide +kernel
theorem dM_expression_238 : decode cM_expression 238 = .ok (.ifCond .le (8), 3) := by decide +kernel
theorem dM_expression_241 : decode cM_expression 241 = .ok (.aload_n 0, 1) := by decide +kernel
theorem dM_expression_242 : decode cM_expression 242 = .ok (.iconst 1, 1) := by decide +kernel
theorem dM_expression_243 : decode cM_expression 243 = .ok (.invokevirtual 429, 3) := by decide +kernel
theorem dM_expression_246 : decode cM_expression 246 = .ok (.aload_n 0, 1) := by decide +kernel
theorem dM_expression_247 : decode cM_expression 247 = .ok (.iload 4, 2) := by decide +kernel
theorem dM_expression_249 : decode cM_expression 249 = .ok (.putfield 384, 3) := by decide +kernel
theorem dM_expression_252 : decode cM_expression 252 = .ok (.goto (-219), 3) := by decide +kernel
theorem dM_expression_255 : decode cM_expression 255 = .ok (.aload_n 0, 1) := by decide +kernel
theorem dM_expression_256 : decode cM_expression 256 = .ok (.getfield 473, 3) := by decide +kernel
theorem dM_expression_259 : decode cM_expression 259 = .ok (.ifCond .le (17), 3) := by decide +kernel
theorem dM_expression_262 : decode cM_expression 262 = .ok (.aload_n 0, 1) := by decide +kernel
theorem dM_expression_263 : decode cM_expression 263 = .ok (.getfield 420, 3) := by decide +kernel
theorem dM_expression_266 : decode cM_expression 266 = .ok (.ifCond .ne (10), 3) := by decide +kernel
theorem dM_expression_269 : decode cM_expression 269 = .ok (.aload_n 0, 1) := by decide +kernel
theorem dM_expression_270 : decode cM_expression 270 = .ok (.invokevirtual 528, 3) := by decide +kernel
theorem dM_expression_273 : decode cM_expression 273 = .ok (.goto (-18), 3) := by decide +kernel
theorem dM_expression_276 : decode cM_expression 276 = .ok (.aload_n 0, 1) := by decide +kernel
theorem dM_expression_277 : decode cM_expression 277 = .ok (.getfield 420, 3) := by decide +kernel
theorem dM_expression_280 : decode cM_expression 280 = .ok (.ifCond .ne (15), 3) := by decide +kernel
theorem dM_expression_283 : decode cM_expression 283 = .ok (.aload_n 0, 1) := by decide +kernel
theorem dM_expression_284 : decode cM_expression 284 = .ok (.getfield 345, 3) := by decide +kernel
theorem dM_expression_287 : decode cM_expression 287 = .ok (.aload_n 0, 1) := by decide +kernel
theorem dM_expression_288 : decode cM_expression 288 = .ok (.getfield 476, 3) := by decide +kernel
theorem dM_expression_291 : decode cM_expression 291 = .ok (.iaload, 1) := by decide +kernel
theorem dM_expression_292 : decode cM_expression 292 = .ok (.goto (4), 3) := by decide +kernel
theorem dM_expression_295 : decode cM_expression 295 = .ok (.iconst 0, 1) := by decide +kernel
theorem dM_expression_296 : decode cM_expression 296 = .ok (.istore 4, 2) := by decide +kernel
theorem dM_expression_298 : decode cM_expression 298 = .ok (.aload_n 0, 1) := by decide +kernel
theorem dM_expression_299 : decode cM_expression 299 = .ok (.getfield 531, 3) := by decide +kernel
theorem dM_expression_302 : decode cM_expression 302 = .ok (.iconst 2, 1) := by decide +kernel
theorem dM_expression_303 : decode cM_expression 303 = .ok (.if_icmp .ne (35), 3) := by decide +kernel
theorem dM_expression_306 : decode cM_expression 306 = .ok (.aload_n 0, 1) := by decide +kernel
theorem dM_expression_307 : decode cM_expression 307 = .ok (.getfield 466, 3) := by decide +kernel
theorem dM_expression_310 : decode cM_expression 310 = .ok (.ifCond .ne (10), 3) := by decide +kernel
theorem dM_expression_313 : decode cM_expression 313 = .ok (.aload_n 0, 1) := by decide +kernel
theorem dM_expression_314 : decode cM_expression 314 = .ok (.getfield 479, 3) := by decide +kernel
theorem dM_expression_317 : decode cM_expression 317 = .ok (.ifCond .eq (21), 3) := by decide +kernel
theorem dM_expression_320 : decode cM_expression 320 = .ok (.aload_n 0, 1) := by decide +kernel
theorem dM_expression_321 : decode cM_expression 321 = .ok (.aload_n 0, 1) := by decide +kernel
theorem dM_expression_322 : decode cM_expression 322 = .ok (.getfield 466, 3) := by decide +kernel
theorem dM_expression_325 : decode cM_expression 325 = .ok (.ifCond .eq (8), 3) := by decide +kernel
theorem dM_expression_328 : decode cM_expression 328 = .ok (.bipush 8, 2) := by decide +kernel
theorem dM_expression_330 : decode cM_expression 330 = .ok (.goto (5), 3) := by decide +kernel
theorem dM_expression_333 : decode cM_expression 333 = .ok (.bipush 9, 2) := by decide +kernel
theorem dM_expression_335 : decode cM_expression 335 = .ok (.invokevirtual 429, 3) := by decide +kernel
theorem dM_expression_338 : decode cM_expression 338 = .ok (.iload 4, 2) := by decide +kernel
theorem dM_expression_340 : decode cM_expression 340 = .ok (.ireturn, 1) := by decide +kernel
theorem gM_bind_518 : GoodIn lw_gd (wsV RM 518 RM yM_bind (.code yM_bind cM_bind 4 none :: lw_gd)) := lw_GV q_1960 q_1957 q_1959 qs_84 q_23
theorem gM_find_489 : GoodIn lw_gd (wsV RM 489 RM yM_find (.code yM_find cM_find 4 (some .int) :: lw_gd)) := lw_GV q_1877 q_1874 q_1876 qs_65 q_23
theorem gM_join_528 : GoodIn lw_gd (wsV RM 528 RM yM_join (.code yM_join cM_join 2 none :: lw_gd)) := lw_GV q_1967 q_1964 q_1966 qs_85 q_23
theorem gM_name_501 : GoodIn lw_gd (wsV RM 501 RM yM_name (.code yM_name cM_name 4 none :: lw_gd)) := lw_GV q_1934 q_1931 q_1933 qs_78 q_23
theorem gM_near_504 : GoodIn lw_gd (wsV RM 504 RM yM_near (.code yM_near cM_near 7 (some .int) :: lw_gd)) := lw_GV q_1950 q_1947 q_1949 qs_82 q_23
theorem gM_operand_521 : GoodIn lw_gd (wsV RM 521 RM yM_operand (.code yM_operand cM_operand 3 (some .boolean) :: lw_gd)) := lw_GV q_1930 q_1927 q_1929 qs_77 q_23
theorem gM_rank_525 : GoodIn lw_gd (wsS RM 525 yM_rank (.code yM_rank cM_rank 1 (some .int) :: lw_gd)) := lw_GS q_1963 q_1961 q_1962 q_23
theorem gM_sign_508 : GoodIn lw_gd (wsV RM 508 RM yM_sign (.code yM_sign cM_sign 2 none :: lw_gd)) := lw_GV q_1954 q_1951 q_1953 qs_83 q_23
theorem gM_value_498 : GoodIn lw_gd (wsV RM 498 RM yM_value (.code yM_value cM_value 2 none :: lw_gd)) := lw_GV q_1946 q_1943 q_1945 qs_81 q_23
theorem gM_valueOf_470 : GoodIn lw_gd (wsV RM 470 RM yM_valueOf (.code yM_valueOf cM_valueOf 3 (some .int) :: lw_gd)) := lw_GV q_1938 q_1935 q_1937 qs_79 q_23
section
variable {p : Program} {l : Launch} {e : Env} {s : State} {m : MethodId} {args : Array Value} {below : List Frame} {meth : Method} {c : Code} {D : va_G} {dA : Nat → ClassId} {h : Nat → Nat} {A : Nat → Prop}
def M_valueOf_54 (t0 : Int32) (σ : MS) : Option Int32 :=
  some t0
set_option maxHeartbeats 4000000 in
set_option maxRecDepth 100000 in
theorem bM_valueOf_54  {r : Int32} (C : CxM p s m args meth c cM_valueOf 3 (some .int) D dA A) (t0 : Int32) (σ : MS) (hM : M_valueOf_54  t0 σ = some r) (hW : WdM D dA h A s σ s.heap []) (ls : Array Slot) (hl : lv_has ls 3 []) : W p l e rm_valueOf s m args below meth c s.heap [] 0 0 (MQ below (QS (some (.int r))) args s 0 0 (fun _ => False)) (F0 m 54 ls [.int t0]) := by
  have hx := C.1.1
  have hb := C.1.2.1
  have hown := C.1.2.2.2.2.1
  have hT := C.1.2.2.2.2.2.1
  unfold M_valueOf_54 at hM
  obtain rfl := sm_i hM
  exact x_retS (pc := 54) C.1 rfl dM_valueOf_54
def M_valueOf_34 (x1 : Int32) (σ : MS) : Option Int32 :=
  cr (M_base  σ) (fun r1 => gd (inB x1 2060) (M_valueOf_54  (r1 + (σ.2 6 x1.toNatClampNeg)) σ))
set_option maxHeartbeats 4000000 in
set_option maxRecDepth 100000 in
theorem bM_valueOf_34  {r : Int32} (C : CxM p s m args meth c cM_valueOf 3 (some .int) D dA A) (x1 : Int32) (σ : MS) (hM : M_valueOf_34  x1 σ = some r) (hW : WdM D dA h A s σ s.heap []) (ls : Array Slot) (hl : lv_has ls 3 [(0, .ref (h 0)), (1, .int x1)]) : W p l e rm_valueOf s m args below meth c s.heap [] 0 0 (MQ below (QS (some (.int r))) args s 0 0 (fun _ => False)) (F0 m 34 ls []) := by
  have hx := C.1.1
  have hb := C.1.2.1
  have hown := C.1.2.2.2.2.1
  have hT := C.1.2.2.2.2.2.1
  unfold M_valueOf_34 at hM
  refine lv_aload_n (pc := 34) hx hb dM_valueOf_34 rfl (lv_at hl 0 rfl) ?_
  obtain ⟨r1, hr1, hM⟩ := cr_some hM
  refine x_callRi (pc := 35) C hW (kM_base l D dA h  _ hr1) gM_base_459 ⟨rfl, by decide, by decide, by decide +kernel⟩ ⟨rfl, rfl⟩ ⟨by decide, by decide⟩ ⟨by decide, by decide⟩ (As := []) (n := 0) rfl hl.1 rfl (Nat.le_of_ble_eq_true rfl) dM_valueOf_35 ?_
  refine lv_aload_n (pc := 38) hx hb dM_valueOf_38 rfl (lv_at hl 0 rfl) ?_
  refine gM (pc := 39) C hW 15 (by decide) q_1672 rfl rfl dM_valueOf_39 ?_
  refine lv_iload_n (pc := 42) hx hb dM_valueOf_42 rfl (lv_at hl 1 rfl) ?_
  obtain ⟨hg2, hM⟩ := gd_some hM
  refine x_ldI (pc := 43) C hW 10 rfl hg2 dM_valueOf_43 ?_
  refine lv_iadd (pc := 44) hx hb dM_valueOf_44 ?_
  refine lv_goto (pc := 45) (tgt := 54) hx hb dM_valueOf_45 (by decide) ?_
  exact bM_valueOf_54  C  _ _ hM hW _ (lv_sub hl [] rfl)
def M_valueOf (x1 : Int32) (σ : MS) : Option Int32 :=
  gd (inB x1 2060) (bnd ((σ.2 5 x1.toNatClampNeg) >>> ((13 : Int32) &&& 31)) (fun y2 => (if y2 = (2 : Int32) then gd (inB x1 2060) (M_valueOf_54  (σ.2 6 x1.toNatClampNeg) σ) else (if y2 = (1 : Int32) then M_valueOf_34  x1 σ else (if y2 = (4 : Int32) then M_valueOf_34  x1 σ else gd (inB x1 2060) (M_valueOf_54  (σ.2 6 x1.toNatClampNeg) σ))))))
set_option maxHeartbeats 4000000 in
set_option maxRecDepth 100000 in
theorem bM_valueOf_0  {r : Int32} (C : CxM p s m args meth c cM_valueOf 3 (some .int) D dA A) (x1 : Int32) (σ : MS) (hM : M_valueOf  x1 σ = some r) (hW : WdM D dA h A s σ s.heap []) (ls : Array Slot) (hl : lv_has ls 3 [(0, .ref (h 0)), (1, .int x1)]) : W p l e rm_valueOf s m args below meth c s.heap [] 0 0 (MQ below (QS (some (.int r))) args s 0 0 (fun _ => False)) (F0 m 0 ls []) := by
  have hx := C.1.1
  have hb := C.1.2.1
  have hown := C.1.2.2.2.2.1
  have hT := C.1.2.2.2.2.2.1
  unfold M_valueOf at hM
  refine lv_aload_n (pc := 0) hx hb dM_valueOf_0 rfl (lv_at hl 0 rfl) ?_
  refine gM (pc := 1) C hW 14 (by decide) q_1671 rfl rfl dM_valueOf_1 ?_
  refine lv_iload_n (pc := 4) hx hb dM_valueOf_4 rfl (lv_at hl 1 rfl) ?_
  obtain ⟨hg1, hM⟩ := gd_some hM
  refine x_ldI (pc := 5) C hW 9 rfl hg1 dM_valueOf_5 ?_
  refine lv_bipush (pc := 6) (v := 13) hx hb dM_valueOf_6 (by decide) ?_
  refine lv_ishr (pc := 8) hx hb dM_valueOf_8 ?_
  obtain ⟨y2, ey2, hM⟩ := bnd_some hM
  refine x_seti ey2 ?_
  refine lv_istore_n (pc := 9) (lv' := [(2, .int y2), (0, .ref (h 0)), (1, .int x1)]) hx hb dM_valueOf_9 rfl hl (by decide) rfl (fun ls hl => ?_)
  refine lv_iload_n (pc := 10) hx hb dM_valueOf_10 rfl (lv_at hl 0 rfl) ?_
  refine lv_iconst (pc := 11) (v := 2) hx hb dM_valueOf_11 (by decide) ?_
  refine lv_icmp_ne (pc := 12) (tgt := 24) hx hb dM_valueOf_12 (by decide) (fun hc => ?_) (fun hc => ?_)
  · replace hM := it_f hc hM
    refine lv_iload_n (pc := 24) hx hb dM_valueOf_24 rfl (lv_at hl 0 rfl) ?_
    refine lv_iconst (pc := 25) (v := 1) hx hb dM_valueOf_25 (by decide) ?_
    refine lv_icmp_eq (pc := 26) (tgt := 34) hx hb dM_valueOf_26 (by decide) (fun hc => ?_) (fun hc => ?_)
    · replace hM := it_t hc hM
      exact bM_valueOf_34  C  _ _ hM hW _ (lv_sub hl [1, 2] rfl)
    · replace hM := it_f hc hM
      refine lv_iload_n (pc := 29) hx hb dM_valueOf_29 rfl (lv_at hl 0 rfl) ?_
      refine lv_iconst (pc := 30) (v := 4) hx hb dM_valueOf_30 (by decide) ?_
      refine lv_icmp_ne (pc := 31) (tgt := 48) hx hb dM_valueOf_31 (by decide) (fun hc => ?_) (fun hc => ?_)
      · replace hM := it_f hc hM
        refine lv_aload_n (pc := 48) hx hb dM_valueOf_48 rfl (lv_at hl 1 rfl) ?_
        refine gM (pc := 49) C hW 15 (by decide) q_1672 rfl rfl dM_valueOf_49 ?_
        refine lv_iload_n (pc := 52) hx hb dM_valueOf_52 rfl (lv_at hl 2 rfl) ?_
        obtain ⟨hg3, hM⟩ := gd_some hM
        refine x_ldI (pc := 53) C hW 10 rfl hg3 dM_valueOf_53 ?_
        exact bM_valueOf_54  C  _ _ hM hW _ (lv_sub hl [] rfl)
      · replace hM := it_t hc hM
        exact bM_valueOf_34  C  _ _ hM hW _ (lv_sub hl [1, 2] rfl)
  · replace hM := it_t hc hM
    refine lv_aload_n (pc := 15) hx hb dM_valueOf_15 rfl (lv_at hl 1 rfl) ?_
    refine gM (pc := 16) C hW 15 (by decide) q_1672 rfl rfl dM_valueOf_16 ?_
    refine lv_iload_n (pc := 19) hx hb dM_valueOf_19 rfl (lv_at hl 2 rfl) ?_
    obtain ⟨hg4, hM⟩ := gd_some hM
    refine x_ldI (pc := 20) C hW 10 rfl hg4 dM_valueOf_20 ?_
    refine lv_goto (pc := 21) (tgt := 54) hx hb dM_valueOf_21 (by decide) ?_
    exact bM_valueOf_54  C  _ _ hM hW _ (lv_sub hl [] rfl)
theorem kM_valueOf (l : Launch) (D : va_G) (dA : Nat → ClassId) (h : Nat → Nat) (x1 : Int32) (σ : MS) {r : Int32} (hM : M_valueOf x1 σ = some r) : KR l D dA yM_valueOf cM_valueOf 3 (some .int) rm_valueOf h σ [.int x1] (some (.int r)) := x_enterR rfl (Nat.le_of_ble_eq_true rfl) (fun p e s m args below meth c A C hW ls hl => bM_valueOf_0 C x1 σ hM hW ls hl)
def M_name_161 (N : Nat) (t1 : Int32) (σ : MS) : Option (Int32 × MS) :=
  cl (M_value  t1 σ) (fun r1 σ2 => some ((0 : Int32), σ2))
set_option maxHeartbeats 4000000 in
set_option maxRecDepth 100000 in
theorem bM_name_161 (N : Nat)  {r : Int32} {σ' : MS} (C : CxM p s m args meth c cM_name 4 none D dA A) (t1 : Int32) (σ : MS) (hM : M_name_161 N  t1 σ = some (r, σ')) (H : Heap) (locs : List Loc) (hW : WdM D dA h A s σ H locs) (ls : Array Slot) (hl : lv_has ls 4 []) : W p l e rm_name s m args below meth c H locs 0 0 (MQ below (QM D dA h A σ' none) args s 0 0 A) (F0 m 161 ls [.int t1, .ref (h 0)]) := by
  have hx := C.1.1
  have hb := C.1.2.1
  have hown := C.1.2.2.2.2.1
  have hT := C.1.2.2.2.2.2.1
  unfold M_name_161 at hM
  obtain ⟨r1, σ2, hr1, hM⟩ := cl_some hM
  refine x_callMv (pc := 161) C hW (kM_value l D dA h  t1 _ hr1) gM_value_498 ⟨rfl, by decide, by decide, by decide +kernel⟩ ⟨rfl, rfl⟩ ⟨by decide, by decide⟩ ⟨by decide, by decide⟩ (As := [.int t1]) (n := 1) rfl hl.1 rfl (Nat.le_of_ble_eq_true rfl) dM_name_161 (fun H locs hW => ?_)
  obtain ⟨rfl, rfl⟩ := sm_p hM
  exact x_retMv (pc := 164) C rfl hW dM_name_164
def M_name_133 (N : Nat) (x1 : Int32) (x2 : Int32) (t1 : Int32) (σ : MS) : Option (Int32 × MS) :=
  gd (isB t1) (bnd (sF σ 24 t1) (fun σ2 => (if x1 = 0 then (if 0 ≤ x2 then cr (M_valueOf  x2 σ2) (fun r3 => M_name_161 N  r3 σ2) else M_name_161 N  (0 : Int32) σ2) else M_name_161 N  (σ2.1 19) σ2)))
set_option maxHeartbeats 4000000 in
set_option maxRecDepth 100000 in
theorem bM_name_133 (N : Nat)  {r : Int32} {σ' : MS} (C : CxM p s m args meth c cM_name 4 none D dA A) (x1 : Int32) (x2 : Int32) (t1 : Int32) (σ : MS) (hM : M_name_133 N  x1 x2 t1 σ = some (r, σ')) (H : Heap) (locs : List Loc) (hW : WdM D dA h A s σ H locs) (ls : Array Slot) (hl : lv_has ls 4 [(0, .ref (h 0)), (1, .int x1), (2, .int x2)]) : W p l e rm_name s m args below meth c H locs 0 0 (MQ below (QM D dA h A σ' none) args s 0 0 A) (F0 m 133 ls [.int t1, .ref (h 0)]) := by
  have hx := C.1.1
  have hb := C.1.2.1
  have hown := C.1.2.2.2.2.1
  have hT := C.1.2.2.2.2.2.1
  unfold M_name_133 at hM
  obtain ⟨hg1, hM⟩ := gd_some hM
  refine pM (pc := 133) (ty := .boolean) C hW 34 24 (by decide) q_1691 rfl rfl (by decide +kernel) (isB_n hg1) (isB_f hg1) (st_missing dA h _ _) dM_name_133 (fun H locs hW => ?_)
  obtain ⟨σ2, eσ2, hM⟩ := bnd_some hM
  rw [← eσ2] at hW
  refine lv_aload_n (pc := 136) hx hb dM_name_136 rfl (lv_at hl 0 rfl) ?_
  refine lv_iload_n (pc := 137) hx hb dM_name_137 rfl (lv_at hl 1 rfl) ?_
  refine lv_if_eq (pc := 138) (tgt := 148) hx hb dM_name_138 (by decide) (fun hc => ?_) (fun hc => ?_)
  · replace hM := it_t hc hM
    refine lv_iload_n (pc := 148) hx hb dM_name_148 rfl (lv_at hl 2 rfl) ?_
    refine lv_if_ge (pc := 149) (tgt := 156) hx hb dM_name_149 (by decide) (fun hc => ?_) (fun hc => ?_)
    · replace hM := it_t hc hM
      refine lv_aload_n (pc := 156) hx hb dM_name_156 rfl (lv_at hl 0 rfl) ?_
      refine lv_iload_n (pc := 157) hx hb dM_name_157 rfl (lv_at hl 2 rfl) ?_
      obtain ⟨r3, hr3, hM⟩ := cr_some hM
      refine x_callRi (pc := 158) C hW (kM_valueOf l D dA h  x2 _ hr3) gM_valueOf_470 ⟨rfl, by decide, by decide, by decide +kernel⟩ ⟨rfl, rfl⟩ ⟨by decide, by decide⟩ ⟨by decide, by decide⟩ (As := [.int x2]) (n := 1) rfl hl.1 rfl (Nat.le_of_ble_eq_true rfl) dM_name_158 ?_
      exact bM_name_161 N  C  _ _ hM _ _ hW _ (lv_sub hl [] rfl)
    · replace hM := it_f hc hM
      refine lv_iconst (pc := 152) (v := 0) hx hb dM_name_152 (by decide) ?_
      refine lv_goto (pc := 153) (tgt := 161) hx hb dM_name_153 (by decide) ?_
      exact bM_name_161 N  C  _ _ hM _ _ hW _ (lv_sub hl [] rfl)
  · replace hM := it_f hc hM
    refine lv_aload_n (pc := 141) hx hb dM_name_141 rfl (lv_at hl 0 rfl) ?_
    refine gM (pc := 142) C hW 29 (by decide) q_1686 rfl rfl dM_name_142 ?_
    refine lv_goto (pc := 145) (tgt := 161) hx hb dM_name_145 (by decide) ?_
    exact bM_name_161 N  C  _ _ hM _ _ hW _ (lv_sub hl [] rfl)
def M_name_128 (N : Nat) (x1 : Int32) (x2 : Int32) (σ : MS) : Option (Int32 × MS) :=
  M_name_133 N  x1 x2 (1 : Int32) σ
set_option maxHeartbeats 4000000 in
set_option maxRecDepth 100000 in
theorem bM_name_128 (N : Nat)  {r : Int32} {σ' : MS} (C : CxM p s m args meth c cM_name 4 none D dA A) (x1 : Int32) (x2 : Int32) (σ : MS) (hM : M_name_128 N  x1 x2 σ = some (r, σ')) (H : Heap) (locs : List Loc) (hW : WdM D dA h A s σ H locs) (ls : Array Slot) (hl : lv_has ls 4 [(0, .ref (h 0)), (1, .int x1), (2, .int x2)]) : W p l e rm_name s m args below meth c H locs 0 0 (MQ below (QM D dA h A σ' none) args s 0 0 A) (F0 m 128 ls [.ref (h 0)]) := by
  have hx := C.1.1
  have hb := C.1.2.1
  have hown := C.1.2.2.2.2.1
  have hT := C.1.2.2.2.2.2.1
  unfold M_name_128 at hM
  refine lv_iconst (pc := 128) (v := 1) hx hb dM_name_128 (by decide) ?_
  refine lv_goto (pc := 129) (tgt := 133) hx hb dM_name_129 (by decide) ?_
  exact bM_name_133 N  C  _ _ _ _ hM _ _ hW _ (lv_sub hl [0, 1, 2] rfl)
def M_name_132 (N : Nat) (x1 : Int32) (x2 : Int32) (σ : MS) : Option (Int32 × MS) :=
  M_name_133 N  x1 x2 (0 : Int32) σ
set_option maxHeartbeats 4000000 in
set_option maxRecDepth 100000 in
theorem bM_name_132 (N : Nat)  {r : Int32} {σ' : MS} (C : CxM p s m args meth c cM_name 4 none D dA A) (x1 : Int32) (x2 : Int32) (σ : MS) (hM : M_name_132 N  x1 x2 σ = some (r, σ')) (H : Heap) (locs : List Loc) (hW : WdM D dA h A s σ H locs) (ls : Array Slot) (hl : lv_has ls 4 [(0, .ref (h 0)), (1, .int x1), (2, .int x2)]) : W p l e rm_name s m args below meth c H locs 0 0 (MQ below (QM D dA h A σ' none) args s 0 0 A) (F0 m 132 ls [.ref (h 0)]) := by
  have hx := C.1.1
  have hb := C.1.2.1
  have hown := C.1.2.2.2.2.1
  have hT := C.1.2.2.2.2.2.1
  unfold M_name_132 at hM
  refine lv_iconst (pc := 132) (v := 0) hx hb dM_name_132 (by decide) ?_
  exact bM_name_133 N  C  _ _ _ _ hM _ _ hW _ (lv_sub hl [0, 1, 2] rfl)
def M_name_109 (N : Nat) (x1 : Int32) (x2 : Int32) (t1 : Int32) (σ : MS) : Option (Int32 × MS) :=
  gd (isB t1) (bnd (sF σ 26 t1) (fun σ2 => (if (σ2.1 24) = 0 then (if x1 = 0 then (if 0 ≤ x2 then M_name_132 N  x1 x2 σ2 else M_name_128 N  x1 x2 σ2) else M_name_132 N  x1 x2 σ2) else M_name_128 N  x1 x2 σ2)))
set_option maxHeartbeats 4000000 in
set_option maxRecDepth 100000 in
theorem bM_name_109 (N : Nat)  {r : Int32} {σ' : MS} (C : CxM p s m args meth c cM_name 4 none D dA A) (x1 : Int32) (x2 : Int32) (t1 : Int32) (σ : MS) (hM : M_name_109 N  x1 x2 t1 σ = some (r, σ')) (H : Heap) (locs : List Loc) (hW : WdM D dA h A s σ H locs) (ls : Array Slot) (hl : lv_has ls 4 [(0, .ref (h 0)), (1, .int x1), (2, .int x2)]) : W p l e rm_name s m args below meth c H locs 0 0 (MQ below (QM D dA h A σ' none) args s 0 0 A) (F0 m 109 ls [.int t1, .ref (h 0)]) := by
  have hx := C.1.1
  have hb := C.1.2.1
  have hown := C.1.2.2.2.2.1
  have hT := C.1.2.2.2.2.2.1
  unfold M_name_109 at hM
  obtain ⟨hg1, hM⟩ := gd_some hM
  refine pM (pc := 109) (ty := .boolean) C hW 36 26 (by decide) q_1693 rfl rfl (by decide +kernel) (isB_n hg1) (isB_f hg1) (st_loose dA h _ _) dM_name_109 (fun H locs hW => ?_)
  obtain ⟨σ2, eσ2, hM⟩ := bnd_some hM
  rw [← eσ2] at hW
  refine lv_aload_n (pc := 112) hx hb dM_name_112 rfl (lv_at hl 0 rfl) ?_
  refine lv_aload_n (pc := 113) hx hb dM_name_113 rfl (lv_at hl 0 rfl) ?_
  refine gM (pc := 114) C hW 34 (by decide) q_1691 rfl rfl dM_name_114 ?_
  refine lv_if_ne (pc := 117) (tgt := 128) hx hb dM_name_117 (by decide) (fun hc => ?_) (fun hc => ?_)
  · replace hM := it_f hc hM
    exact bM_name_128 N  C  _ _ _ hM _ _ hW _ (lv_sub hl [0, 1, 2] rfl)
  · replace hM := it_t hc hM
    refine lv_iload_n (pc := 120) hx hb dM_name_120 rfl (lv_at hl 1 rfl) ?_
    refine lv_if_ne (pc := 121) (tgt := 132) hx hb dM_name_121 (by decide) (fun hc => ?_) (fun hc => ?_)
    · replace hM := it_f hc hM
      exact bM_name_132 N  C  _ _ _ hM _ _ hW _ (lv_sub hl [0, 1, 2] rfl)
    · replace hM := it_t hc hM
      refine lv_iload_n (pc := 124) hx hb dM_name_124 rfl (lv_at hl 2 rfl) ?_
      refine lv_if_ge (pc := 125) (tgt := 132) hx hb dM_name_125 (by decide) (fun hc => ?_) (fun hc => ?_)
      · replace hM := it_t hc hM
        exact bM_name_132 N  C  _ _ _ hM _ _ hW _ (lv_sub hl [0, 1, 2] rfl)
      · replace hM := it_f hc hM
        exact bM_name_128 N  C  _ _ _ hM _ _ hW _ (lv_sub hl [0, 1, 2] rfl)
def M_name_104 (N : Nat) (x1 : Int32) (x2 : Int32) (σ : MS) : Option (Int32 × MS) :=
  M_name_109 N  x1 x2 (1 : Int32) σ
set_option maxHeartbeats 4000000 in
set_option maxRecDepth 100000 in
theorem bM_name_104 (N : Nat)  {r : Int32} {σ' : MS} (C : CxM p s m args meth c cM_name 4 none D dA A) (x1 : Int32) (x2 : Int32) (σ : MS) (hM : M_name_104 N  x1 x2 σ = some (r, σ')) (H : Heap) (locs : List Loc) (hW : WdM D dA h A s σ H locs) (ls : Array Slot) (hl : lv_has ls 4 [(0, .ref (h 0)), (1, .int x1), (2, .int x2)]) : W p l e rm_name s m args below meth c H locs 0 0 (MQ below (QM D dA h A σ' none) args s 0 0 A) (F0 m 104 ls [.ref (h 0)]) := by
  have hx := C.1.1
  have hb := C.1.2.1
  have hown := C.1.2.2.2.2.1
  have hT := C.1.2.2.2.2.2.1
  unfold M_name_104 at hM
  refine lv_iconst (pc := 104) (v := 1) hx hb dM_name_104 (by decide) ?_
  refine lv_goto (pc := 105) (tgt := 109) hx hb dM_name_105 (by decide) ?_
  exact bM_name_109 N  C  _ _ _ _ hM _ _ hW _ (lv_sub hl [0, 1, 2] rfl)
def M_name_91 (N : Nat) (x1 : Int32) (x2 : Int32) (t0 : Int32) (σ : MS) : Option (Int32 × MS) :=
  (if (σ.1 26) = 0 then (if t0 = 0 then M_name_104 N  x1 x2 σ else M_name_109 N  x1 x2 (0 : Int32) σ) else M_name_104 N  x1 x2 σ)
set_option maxHeartbeats 4000000 in
set_option maxRecDepth 100000 in
theorem bM_name_91 (N : Nat)  {r : Int32} {σ' : MS} (C : CxM p s m args meth c cM_name 4 none D dA A) (x1 : Int32) (x2 : Int32) (t0 : Int32) (σ : MS) (hM : M_name_91 N  x1 x2 t0 σ = some (r, σ')) (H : Heap) (locs : List Loc) (hW : WdM D dA h A s σ H locs) (ls : Array Slot) (hl : lv_has ls 4 [(0, .ref (h 0)), (1, .int x1), (2, .int x2)]) : W p l e rm_name s m args below meth c H locs 0 0 (MQ below (QM D dA h A σ' none) args s 0 0 A) (F0 m 91 ls [.int t0]) := by
  have hx := C.1.1
  have hb := C.1.2.1
  have hown := C.1.2.2.2.2.1
  have hT := C.1.2.2.2.2.2.1
  unfold M_name_91 at hM
  refine lv_istore_n (pc := 91) (lv' := [(3, .int t0), (0, .ref (h 0)), (1, .int x1), (2, .int x2)]) hx hb dM_name_91 rfl hl (by decide) rfl (fun ls hl => ?_)
  refine lv_aload_n (pc := 92) hx hb dM_name_92 rfl (lv_at hl 1 rfl) ?_
  refine lv_aload_n (pc := 93) hx hb dM_name_93 rfl (lv_at hl 1 rfl) ?_
  refine gM (pc := 94) C hW 36 (by decide) q_1693 rfl rfl dM_name_94 ?_
  refine lv_if_ne (pc := 97) (tgt := 104) hx hb dM_name_97 (by decide) (fun hc => ?_) (fun hc => ?_)
  · replace hM := it_f hc hM
    exact bM_name_104 N  C  _ _ _ hM _ _ hW _ (lv_sub hl [1, 2, 3] rfl)
  · replace hM := it_t hc hM
    refine lv_iload_n (pc := 100) hx hb dM_name_100 rfl (lv_at hl 0 rfl) ?_
    refine lv_if_ne (pc := 101) (tgt := 108) hx hb dM_name_101 (by decide) (fun hc => ?_) (fun hc => ?_)
    · replace hM := it_f hc hM
      refine lv_iconst (pc := 108) (v := 0) hx hb dM_name_108 (by decide) ?_
      exact bM_name_109 N  C  _ _ _ _ hM _ _ hW _ (lv_sub hl [1, 2, 3] rfl)
    · replace hM := it_t hc hM
      exact bM_name_104 N  C  _ _ _ hM _ _ hW _ (lv_sub hl [1, 2, 3] rfl)
def M_name_90 (N : Nat) (x1 : Int32) (x2 : Int32) (σ : MS) : Option (Int32 × MS) :=
  M_name_91 N  x1 x2 (0 : Int32) σ
set_option maxHeartbeats 4000000 in
set_option maxRecDepth 100000 in
theorem bM_name_90 (N : Nat)  {r : Int32} {σ' : MS} (C : CxM p s m args meth c cM_name 4 none D dA A) (x1 : Int32) (x2 : Int32) (σ : MS) (hM : M_name_90 N  x1 x2 σ = some (r, σ')) (H : Heap) (locs : List Loc) (hW : WdM D dA h A s σ H locs) (ls : Array Slot) (hl : lv_has ls 4 [(0, .ref (h 0)), (1, .int x1), (2, .int x2)]) : W p l e rm_name s m args below meth c H locs 0 0 (MQ below (QM D dA h A σ' none) args s 0 0 A) (F0 m 90 ls []) := by
  have hx := C.1.1
  have hb := C.1.2.1
  have hown := C.1.2.2.2.2.1
  have hT := C.1.2.2.2.2.2.1
  unfold M_name_90 at hM
  refine lv_iconst (pc := 90) (v := 0) hx hb dM_name_90 (by decide) ?_
  exact bM_name_91 N  C  _ _ _ _ hM _ _ hW _ (lv_sub hl [0, 1, 2] rfl)
def M_name_68 (N : Nat) (x1 : Int32) (t0 : Int32) (σ : MS) : Option (Int32 × MS) :=
  (if t0 < 0 then M_name_90 N  x1 t0 σ else gd (inB t0 2060) ((if ((σ.2 5 t0.toNatClampNeg) >>> ((13 : Int32) &&& 31)) = (2 : Int32) then M_name_91 N  x1 t0 (1 : Int32) σ else M_name_90 N  x1 t0 σ)))
set_option maxHeartbeats 4000000 in
set_option maxRecDepth 100000 in
theorem bM_name_68 (N : Nat)  {r : Int32} {σ' : MS} (C : CxM p s m args meth c cM_name 4 none D dA A) (x1 : Int32) (t0 : Int32) (σ : MS) (hM : M_name_68 N  x1 t0 σ = some (r, σ')) (H : Heap) (locs : List Loc) (hW : WdM D dA h A s σ H locs) (ls : Array Slot) (hl : lv_has ls 4 [(0, .ref (h 0)), (1, .int x1)]) : W p l e rm_name s m args below meth c H locs 0 0 (MQ below (QM D dA h A σ' none) args s 0 0 A) (F0 m 68 ls [.int t0]) := by
  have hx := C.1.1
  have hb := C.1.2.1
  have hown := C.1.2.2.2.2.1
  have hT := C.1.2.2.2.2.2.1
  unfold M_name_68 at hM
  refine lv_istore_n (pc := 68) (lv' := [(2, .int t0), (0, .ref (h 0)), (1, .int x1)]) hx hb dM_name_68 rfl hl (by decide) rfl (fun ls hl => ?_)
  refine lv_iload_n (pc := 69) hx hb dM_name_69 rfl (lv_at hl 0 rfl) ?_
  refine lv_if_lt (pc := 70) (tgt := 90) hx hb dM_name_70 (by decide) (fun hc => ?_) (fun hc => ?_)
  · replace hM := it_t hc hM
    exact bM_name_90 N  C  _ _ _ hM _ _ hW _ (lv_sub hl [1, 2, 0] rfl)
  · replace hM := it_f hc hM
    refine lv_aload_n (pc := 73) hx hb dM_name_73 rfl (lv_at hl 1 rfl) ?_
    refine gM (pc := 74) C hW 14 (by decide) q_1671 rfl rfl dM_name_74 ?_
    refine lv_iload_n (pc := 77) hx hb dM_name_77 rfl (lv_at hl 0 rfl) ?_
    obtain ⟨hg1, hM⟩ := gd_some hM
    refine x_ldI (pc := 78) C hW 9 rfl hg1 dM_name_78 ?_
    refine lv_bipush (pc := 79) (v := 13) hx hb dM_name_79 (by decide) ?_
    refine lv_ishr (pc := 81) hx hb dM_name_81 ?_
    refine lv_iconst (pc := 82) (v := 2) hx hb dM_name_82 (by decide) ?_
    refine lv_icmp_ne (pc := 83) (tgt := 90) hx hb dM_name_83 (by decide) (fun hc => ?_) (fun hc => ?_)
    · replace hM := it_f hc hM
      exact bM_name_90 N  C  _ _ _ hM _ _ hW _ (lv_sub hl [1, 2, 0] rfl)
    · replace hM := it_t hc hM
      refine lv_iconst (pc := 86) (v := 1) hx hb dM_name_86 (by decide) ?_
      refine lv_goto (pc := 87) (tgt := 91) hx hb dM_name_87 (by decide) ?_
      exact bM_name_91 N  C  _ _ _ _ hM _ _ hW _ (lv_sub hl [1, 2, 0] rfl)
def M_name_52 (N : Nat) (x1 : Int32) (σ : MS) : Option (Int32 × MS) :=
  M_name_68 N  x1 (-1 : Int32) σ
set_option maxHeartbeats 4000000 in
set_option maxRecDepth 100000 in
theorem bM_name_52 (N : Nat)  {r : Int32} {σ' : MS} (C : CxM p s m args meth c cM_name 4 none D dA A) (x1 : Int32) (σ : MS) (hM : M_name_52 N  x1 σ = some (r, σ')) (H : Heap) (locs : List Loc) (hW : WdM D dA h A s σ H locs) (ls : Array Slot) (hl : lv_has ls 4 [(0, .ref (h 0)), (1, .int x1)]) : W p l e rm_name s m args below meth c H locs 0 0 (MQ below (QM D dA h A σ' none) args s 0 0 A) (F0 m 52 ls []) := by
  have hx := C.1.1
  have hb := C.1.2.1
  have hown := C.1.2.2.2.2.1
  have hT := C.1.2.2.2.2.2.1
  unfold M_name_52 at hM
  refine lv_iconst (pc := 52) (v := -1) hx hb dM_name_52 (by decide) ?_
  refine lv_goto (pc := 53) (tgt := 68) hx hb dM_name_53 (by decide) ?_
  exact bM_name_68 N  C  _ _ _ hM _ _ hW _ (lv_sub hl [0, 1] rfl)
def M_name_32 (N : Nat) (t0 : Int32) (σ : MS) : Option (Int32 × MS) :=
  (if t0 = 0 then cr (M_register N (σ.1 11) (σ.1 12) σ) (fun r1 => (if r1 < 0 then cr (M_find N (σ.1 11) (σ.1 12) σ) (fun r2 => M_name_68 N  t0 r2 σ) else M_name_52 N  t0 σ)) else M_name_52 N  t0 σ)
set_option maxHeartbeats 4000000 in
set_option maxRecDepth 100000 in
theorem bM_name_32 (N : Nat)  {r : Int32} {σ' : MS} (C : CxM p s m args meth c cM_name 4 none D dA A) (t0 : Int32) (σ : MS) (hM : M_name_32 N  t0 σ = some (r, σ')) (H : Heap) (locs : List Loc) (hW : WdM D dA h A s σ H locs) (ls : Array Slot) (hl : lv_has ls 4 [(0, .ref (h 0))]) : W p l e rm_name s m args below meth c H locs 0 0 (MQ below (QM D dA h A σ' none) args s 0 0 A) (F0 m 32 ls [.int t0]) := by
  have hx := C.1.1
  have hb := C.1.2.1
  have hown := C.1.2.2.2.2.1
  have hT := C.1.2.2.2.2.2.1
  unfold M_name_32 at hM
  refine lv_istore_n (pc := 32) (lv' := [(1, .int t0), (0, .ref (h 0))]) hx hb dM_name_32 rfl hl (by decide) rfl (fun ls hl => ?_)
  refine lv_iload_n (pc := 33) hx hb dM_name_33 rfl (lv_at hl 0 rfl) ?_
  refine lv_if_ne (pc := 34) (tgt := 52) hx hb dM_name_34 (by decide) (fun hc => ?_) (fun hc => ?_)
  · replace hM := it_f hc hM
    exact bM_name_52 N  C  _ _ hM _ _ hW _ (lv_sub hl [1, 0] rfl)
  · replace hM := it_t hc hM
    refine lv_aload_n (pc := 37) hx hb dM_name_37 rfl (lv_at hl 1 rfl) ?_
    refine lv_aload_n (pc := 38) hx hb dM_name_38 rfl (lv_at hl 1 rfl) ?_
    refine gM (pc := 39) C hW 21 (by decide) q_1678 rfl rfl dM_name_39 ?_
    refine lv_aload_n (pc := 42) hx hb dM_name_42 rfl (lv_at hl 1 rfl) ?_
    refine gM (pc := 43) C hW 22 (by decide) q_1679 rfl rfl dM_name_43 ?_
    obtain ⟨r1, hr1, hM⟩ := cr_some hM
    refine x_callRi (pc := 46) C hW (kM_register l D dA h N (σ.1 11) (σ.1 12) _ hr1) gM_register_486 ⟨rfl, by decide, by decide, by decide +kernel⟩ ⟨rfl, rfl⟩ ⟨by decide, by decide⟩ ⟨by decide, by decide⟩ (As := [.int (σ.1 11), .int (σ.1 12)]) (n := 2) rfl hl.1 rfl (Nat.le_of_ble_eq_true rfl) dM_name_46 ?_
    refine lv_if_lt (pc := 49) (tgt := 56) hx hb dM_name_49 (by decide) (fun hc => ?_) (fun hc => ?_)
    · replace hM := it_t hc hM
      refine lv_aload_n (pc := 56) hx hb dM_name_56 rfl (lv_at hl 1 rfl) ?_
      refine lv_aload_n (pc := 57) hx hb dM_name_57 rfl (lv_at hl 1 rfl) ?_
      refine gM (pc := 58) C hW 21 (by decide) q_1678 rfl rfl dM_name_58 ?_
      refine lv_aload_n (pc := 61) hx hb dM_name_61 rfl (lv_at hl 1 rfl) ?_
      refine gM (pc := 62) C hW 22 (by decide) q_1679 rfl rfl dM_name_62 ?_
      obtain ⟨r2, hr2, hM⟩ := cr_some hM
      refine x_callRi (pc := 65) C hW (kM_find l D dA h N (σ.1 11) (σ.1 12) _ hr2) gM_find_489 ⟨rfl, by decide, by decide, by decide +kernel⟩ ⟨rfl, rfl⟩ ⟨by decide, by decide⟩ ⟨by decide, by decide⟩ (As := [.int (σ.1 11), .int (σ.1 12)]) (n := 2) rfl hl.1 rfl (Nat.le_of_ble_eq_true rfl) dM_name_65 ?_
      exact bM_name_68 N  C  _ _ _ hM _ _ hW _ (lv_sub hl [1, 0] rfl)
    · replace hM := it_f hc hM
      exact bM_name_52 N  C  _ _ hM _ _ hW _ (lv_sub hl [1, 0] rfl)
def M_name_31 (N : Nat)  (σ : MS) : Option (Int32 × MS) :=
  M_name_32 N  (0 : Int32) σ
set_option maxHeartbeats 4000000 in
set_option maxRecDepth 100000 in
theorem bM_name_31 (N : Nat)  {r : Int32} {σ' : MS} (C : CxM p s m args meth c cM_name 4 none D dA A)  (σ : MS) (hM : M_name_31 N   σ = some (r, σ')) (H : Heap) (locs : List Loc) (hW : WdM D dA h A s σ H locs) (ls : Array Slot) (hl : lv_has ls 4 [(0, .ref (h 0))]) : W p l e rm_name s m args below meth c H locs 0 0 (MQ below (QM D dA h A σ' none) args s 0 0 A) (F0 m 31 ls []) := by
  have hx := C.1.1
  have hb := C.1.2.1
  have hown := C.1.2.2.2.2.1
  have hT := C.1.2.2.2.2.2.1
  unfold M_name_31 at hM
  refine lv_iconst (pc := 31) (v := 0) hx hb dM_name_31 (by decide) ?_
  exact bM_name_32 N  C  _ _ hM _ _ hW _ (lv_sub hl [0] rfl)
def M_name (N : Nat)  (σ : MS) : Option (Int32 × MS) :=
  (if ((σ.1 12) - (σ.1 11)) = (1 : Int32) then gd (inB (σ.1 11) 4100) ((if (σ.2 1 (σ.1 11).toNatClampNeg) = (46 : Int32) then M_name_32 N  (1 : Int32) σ else M_name_31 N  σ)) else M_name_31 N  σ)
set_option maxHeartbeats 4000000 in
set_option maxRecDepth 100000 in
theorem bM_name_0 (N : Nat)  {r : Int32} {σ' : MS} (C : CxM p s m args meth c cM_name 4 none D dA A)  (σ : MS) (hM : M_name N   σ = some (r, σ')) (H : Heap) (locs : List Loc) (hW : WdM D dA h A s σ H locs) (ls : Array Slot) (hl : lv_has ls 4 [(0, .ref (h 0))]) : W p l e rm_name s m args below meth c H locs 0 0 (MQ below (QM D dA h A σ' none) args s 0 0 A) (F0 m 0 ls []) := by
  have hx := C.1.1
  have hb := C.1.2.1
  have hown := C.1.2.2.2.2.1
  have hT := C.1.2.2.2.2.2.1
  unfold M_name at hM
  refine lv_aload_n (pc := 0) hx hb dM_name_0 rfl (lv_at hl 0 rfl) ?_
  refine gM (pc := 1) C hW 22 (by decide) q_1679 rfl rfl dM_name_1 ?_
  refine lv_aload_n (pc := 4) hx hb dM_name_4 rfl (lv_at hl 0 rfl) ?_
  refine gM (pc := 5) C hW 21 (by decide) q_1678 rfl rfl dM_name_5 ?_
  refine lv_isub (pc := 8) hx hb dM_name_8 ?_
  refine lv_iconst (pc := 9) (v := 1) hx hb dM_name_9 (by decide) ?_
  refine lv_icmp_ne (pc := 10) (tgt := 31) hx hb dM_name_10 (by decide) (fun hc => ?_) (fun hc => ?_)
  · replace hM := it_f hc hM
    exact bM_name_31 N  C   _ hM _ _ hW _ (lv_sub hl [0] rfl)
  · replace hM := it_t hc hM
    refine lv_aload_n (pc := 13) hx hb dM_name_13 rfl (lv_at hl 0 rfl) ?_
    refine gM (pc := 14) C hW 6 (by decide) q_1663 rfl rfl dM_name_14 ?_
    refine lv_aload_n (pc := 17) hx hb dM_name_17 rfl (lv_at hl 0 rfl) ?_
    refine gM (pc := 18) C hW 21 (by decide) q_1678 rfl rfl dM_name_18 ?_
    obtain ⟨hg1, hM⟩ := gd_some hM
    refine x_ldC (pc := 21) C hW 5 rfl hg1 dM_name_21 ?_
    refine lv_bipush (pc := 22) (v := 46) hx hb dM_name_22 (by decide) ?_
    refine lv_icmp_ne (pc := 24) (tgt := 31) hx hb dM_name_24 (by decide) (fun hc => ?_) (fun hc => ?_)
    · replace hM := it_f hc hM
      exact bM_name_31 N  C   _ hM _ _ hW _ (lv_sub hl [0] rfl)
    · replace hM := it_t hc hM
      refine lv_iconst (pc := 27) (v := 1) hx hb dM_name_27 (by decide) ?_
      refine lv_goto (pc := 28) (tgt := 32) hx hb dM_name_28 (by decide) ?_
      exact bM_name_32 N  C  _ _ hM _ _ hW _ (lv_sub hl [0] rfl)
theorem kM_name (l : Launch) (D : va_G) (dA : Nat → ClassId) (h : Nat → Nat) (N : Nat)  (σ : MS) {r : Int32} {σ' : MS} (hM : M_name N  σ = some (r, σ')) : KM l D dA yM_name cM_name 4 none rm_name h σ [] none σ' := x_enterM rfl (Nat.le_of_ble_eq_true rfl) (fun p e s m args below meth c A C hW ls hl => bM_name_0 N C  σ hM s.heap [] hW ls hl)
def M_near_143 (N : Nat) (t0 : Int32) (σ : MS) : Option (Int32 × MS) :=
  some (t0, σ)
set_option maxHeartbeats 4000000 in
set_option maxRecDepth 100000 in
theorem bM_near_143 (N : Nat)  {r : Int32} {σ' : MS} (C : CxM p s m args meth c cM_near 7 (some .int) D dA A) (t0 : Int32) (σ : MS) (hM : M_near_143 N  t0 σ = some (r, σ')) (H : Heap) (locs : List Loc) (hW : WdM D dA h A s σ H locs) (ls : Array Slot) (hl : lv_has ls 7 []) : W p l e rm_near s m args below meth c H locs 0 0 (MQ below (QM D dA h A σ' (some (.int r))) args s 0 0 A) (F0 m 143 ls [.int t0]) := by
  have hx := C.1.1
  have hb := C.1.2.1
  have hown := C.1.2.2.2.2.1
  have hT := C.1.2.2.2.2.2.1
  unfold M_near_143 at hM
  obtain ⟨rfl, rfl⟩ := sm_p hM
  exact x_retMi (pc := 143) C rfl hW dM_near_143
def M_near_125 (N : Nat) (x4 : Int32) (t1 : Int32) (σ : MS) : Option (Int32 × MS) :=
  gd (isB t1) (bnd (sF σ 24 t1) (fun σ2 => (if 0 ≤ x4 then cr (M_valueOf  x4 σ2) (fun r3 => M_near_143 N  r3 σ2) else M_near_143 N  (0 : Int32) σ2)))
set_option maxHeartbeats 4000000 in
set_option maxRecDepth 100000 in
theorem bM_near_125 (N : Nat)  {r : Int32} {σ' : MS} (C : CxM p s m args meth c cM_near 7 (some .int) D dA A) (x4 : Int32) (t1 : Int32) (σ : MS) (hM : M_near_125 N  x4 t1 σ = some (r, σ')) (H : Heap) (locs : List Loc) (hW : WdM D dA h A s σ H locs) (ls : Array Slot) (hl : lv_has ls 7 [(0, .ref (h 0)), (4, .int x4)]) : W p l e rm_near s m args below meth c H locs 0 0 (MQ below (QM D dA h A σ' (some (.int r))) args s 0 0 A) (F0 m 125 ls [.int t1, .ref (h 0)]) := by
  have hx := C.1.1
  have hb := C.1.2.1
  have hown := C.1.2.2.2.2.1
  have hT := C.1.2.2.2.2.2.1
  unfold M_near_125 at hM
  obtain ⟨hg1, hM⟩ := gd_some hM
  refine pM (pc := 125) (ty := .boolean) C hW 34 24 (by decide) q_1691 rfl rfl (by decide +kernel) (isB_n hg1) (isB_f hg1) (st_missing dA h _ _) dM_near_125 (fun H locs hW => ?_)
  obtain ⟨σ2, eσ2, hM⟩ := bnd_some hM
  rw [← eσ2] at hW
  refine lv_iload (pc := 128) hx hb dM_near_128 (lv_at hl 1 rfl) ?_
  refine lv_if_ge (pc := 130) (tgt := 137) hx hb dM_near_130 (by decide) (fun hc => ?_) (fun hc => ?_)
  · replace hM := it_t hc hM
    refine lv_aload_n (pc := 137) hx hb dM_near_137 rfl (lv_at hl 0 rfl) ?_
    refine lv_iload (pc := 138) hx hb dM_near_138 (lv_at hl 1 rfl) ?_
    obtain ⟨r3, hr3, hM⟩ := cr_some hM
    refine x_callRi (pc := 140) C hW (kM_valueOf l D dA h  x4 _ hr3) gM_valueOf_470 ⟨rfl, by decide, by decide, by decide +kernel⟩ ⟨rfl, rfl⟩ ⟨by decide, by decide⟩ ⟨by decide, by decide⟩ (As := [.int x4]) (n := 1) rfl hl.1 rfl (Nat.le_of_ble_eq_true rfl) dM_near_140 ?_
    exact bM_near_143 N  C  _ _ hM _ _ hW _ (lv_sub hl [] rfl)
  · replace hM := it_f hc hM
    refine lv_iconst (pc := 133) (v := 0) hx hb dM_near_133 (by decide) ?_
    refine lv_goto (pc := 134) (tgt := 143) hx hb dM_near_134 (by decide) ?_
    exact bM_near_143 N  C  _ _ hM _ _ hW _ (lv_sub hl [] rfl)
def M_near_120 (N : Nat) (x4 : Int32) (σ : MS) : Option (Int32 × MS) :=
  M_near_125 N  x4 (1 : Int32) σ
set_option maxHeartbeats 4000000 in
set_option maxRecDepth 100000 in
theorem bM_near_120 (N : Nat)  {r : Int32} {σ' : MS} (C : CxM p s m args meth c cM_near 7 (some .int) D dA A) (x4 : Int32) (σ : MS) (hM : M_near_120 N  x4 σ = some (r, σ')) (H : Heap) (locs : List Loc) (hW : WdM D dA h A s σ H locs) (ls : Array Slot) (hl : lv_has ls 7 [(0, .ref (h 0)), (4, .int x4)]) : W p l e rm_near s m args below meth c H locs 0 0 (MQ below (QM D dA h A σ' (some (.int r))) args s 0 0 A) (F0 m 120 ls [.ref (h 0)]) := by
  have hx := C.1.1
  have hb := C.1.2.1
  have hown := C.1.2.2.2.2.1
  have hT := C.1.2.2.2.2.2.1
  unfold M_near_120 at hM
  refine lv_iconst (pc := 120) (v := 1) hx hb dM_near_120 (by decide) ?_
  refine lv_goto (pc := 121) (tgt := 125) hx hb dM_near_121 (by decide) ?_
  exact bM_near_125 N  C  _ _ _ hM _ _ hW _ (lv_sub hl [0, 1] rfl)
def M_near_101 (N : Nat) (rec20 : Int32 → Int32 → Int32 → Int32 → Int32 → MS → Option (Int32 × MS)) (x1 : Int32) (x2 : Int32) (x3 : Int32) (x4 : Int32) (x5 : Int32) (σ : MS) : Option (Int32 × MS) :=
  rec20 x1 x2 x3 x4 (x5 + (1 : Int32)) σ
set_option maxHeartbeats 4000000 in
set_option maxRecDepth 100000 in
theorem bM_near_101 (N : Nat) (rec20 : Int32 → Int32 → Int32 → Int32 → Int32 → MS → Option (Int32 × MS)) {r : Int32} {σ' : MS} (C : CxM p s m args meth c cM_near 7 (some .int) D dA A) (hrec20 : ∀ (x1 : Int32) (x2 : Int32) (x3 : Int32) (x4 : Int32) (x5 : Int32) (σ : MS), rec20 x1 x2 x3 x4 x5 σ = some (r, σ') → ∀ (H : Heap) (locs : List Loc), WdM D dA h A s σ H locs → ∀ (ls : Array Slot), lv_has ls 7 [(0, .ref (h 0)), (1, .int x1), (2, .int x2), (3, .int x3), (4, .int x4), (5, .int x5)] → W p l e rm_near s m args below meth c H locs 0 0 (MQ below (QM D dA h A σ' (some (.int r))) args s 0 0 A) (F0 m 20 ls [])) (x1 : Int32) (x2 : Int32) (x3 : Int32) (x4 : Int32) (x5 : Int32) (σ : MS) (hM : M_near_101 N rec20 x1 x2 x3 x4 x5 σ = some (r, σ')) (H : Heap) (locs : List Loc) (hW : WdM D dA h A s σ H locs) (ls : Array Slot) (hl : lv_has ls 7 [(0, .ref (h 0)), (1, .int x1), (2, .int x2), (3, .int x3), (4, .int x4), (5, .int x5)]) : W p l e rm_near s m args below meth c H locs 0 0 (MQ below (QM D dA h A σ' (some (.int r))) args s 0 0 A) (F0 m 101 ls []) := by
  have hx := C.1.1
  have hb := C.1.2.1
  have hown := C.1.2.2.2.2.1
  have hT := C.1.2.2.2.2.2.1
  unfold M_near_101 at hM
  refine lv_iinc (pc := 101) (v := x5 + (1 : Int32)) (lv' := [(5, .int (x5 + (1 : Int32))), (0, .ref (h 0)), (1, .int x1), (2, .int x2), (3, .int x3), (4, .int x4)]) hx hb dM_near_101 hl (k := 5) rfl rfl (by decide) rfl (fun ls hl => ?_)
  refine lv_goto (pc := 104) (tgt := 20) hx hb dM_near_104 (by decide) ?_
  exact hrec20 _ _ _ _ _ _ hM _ _ hW _ (lv_sub hl [1, 2, 3, 4, 5, 0] rfl)
def M_near_97 (N : Nat) (rec20 : Int32 → Int32 → Int32 → Int32 → Int32 → MS → Option (Int32 × MS)) (x1 : Int32) (x2 : Int32) (x3 : Int32) (x5 : Int32) (σ : MS) : Option (Int32 × MS) :=
  M_near_101 N rec20 x1 x2 x3 x5 x5 σ
set_option maxHeartbeats 4000000 in
set_option maxRecDepth 100000 in
theorem bM_near_97 (N : Nat) (rec20 : Int32 → Int32 → Int32 → Int32 → Int32 → MS → Option (Int32 × MS)) {r : Int32} {σ' : MS} (C : CxM p s m args meth c cM_near 7 (some .int) D dA A) (hrec20 : ∀ (x1 : Int32) (x2 : Int32) (x3 : Int32) (x4 : Int32) (x5 : Int32) (σ : MS), rec20 x1 x2 x3 x4 x5 σ = some (r, σ') → ∀ (H : Heap) (locs : List Loc), WdM D dA h A s σ H locs → ∀ (ls : Array Slot), lv_has ls 7 [(0, .ref (h 0)), (1, .int x1), (2, .int x2), (3, .int x3), (4, .int x4), (5, .int x5)] → W p l e rm_near s m args below meth c H locs 0 0 (MQ below (QM D dA h A σ' (some (.int r))) args s 0 0 A) (F0 m 20 ls [])) (x1 : Int32) (x2 : Int32) (x3 : Int32) (x5 : Int32) (σ : MS) (hM : M_near_97 N rec20 x1 x2 x3 x5 σ = some (r, σ')) (H : Heap) (locs : List Loc) (hW : WdM D dA h A s σ H locs) (ls : Array Slot) (hl : lv_has ls 7 [(0, .ref (h 0)), (1, .int x1), (2, .int x2), (3, .int x3), (5, .int x5)]) : W p l e rm_near s m args below meth c H locs 0 0 (MQ below (QM D dA h A σ' (some (.int r))) args s 0 0 A) (F0 m 97 ls []) := by
  have hx := C.1.1
  have hb := C.1.2.1
  have hown := C.1.2.2.2.2.1
  have hT := C.1.2.2.2.2.2.1
  unfold M_near_97 at hM
  refine lv_iload (pc := 97) hx hb dM_near_97 (lv_at hl 4 rfl) ?_
  refine lv_istore (pc := 99) (lv' := [(4, .int x5), (0, .ref (h 0)), (1, .int x1), (2, .int x2), (3, .int x3), (5, .int x5)]) hx hb dM_near_99 hl (by decide) rfl (fun ls hl => ?_)
  exact bM_near_101 N rec20 C hrec20 _ _ _ _ _ _ hM _ _ hW _ (lv_sub hl [1, 2, 3, 4, 0, 5] rfl)
def M_near_82 (N : Nat) (rec20 : Int32 → Int32 → Int32 → Int32 → Int32 → MS → Option (Int32 × MS)) (x1 : Int32) (x2 : Int32) (x3 : Int32) (x4 : Int32) (x5 : Int32) (t0 : Int32) (t1 : Int32) (σ : MS) : Option (Int32 × MS) :=
  (if t0 = t1 then (if x2 = 0 then M_near_97 N rec20 x1 x2 x3 x5 σ else (if x4 < 0 then M_near_97 N rec20 x1 x2 x3 x5 σ else M_near_101 N rec20 x1 x2 x3 x4 x5 σ)) else M_near_101 N rec20 x1 x2 x3 x4 x5 σ)
set_option maxHeartbeats 4000000 in
set_option maxRecDepth 100000 in
theorem bM_near_82 (N : Nat) (rec20 : Int32 → Int32 → Int32 → Int32 → Int32 → MS → Option (Int32 × MS)) {r : Int32} {σ' : MS} (C : CxM p s m args meth c cM_near 7 (some .int) D dA A) (hrec20 : ∀ (x1 : Int32) (x2 : Int32) (x3 : Int32) (x4 : Int32) (x5 : Int32) (σ : MS), rec20 x1 x2 x3 x4 x5 σ = some (r, σ') → ∀ (H : Heap) (locs : List Loc), WdM D dA h A s σ H locs → ∀ (ls : Array Slot), lv_has ls 7 [(0, .ref (h 0)), (1, .int x1), (2, .int x2), (3, .int x3), (4, .int x4), (5, .int x5)] → W p l e rm_near s m args below meth c H locs 0 0 (MQ below (QM D dA h A σ' (some (.int r))) args s 0 0 A) (F0 m 20 ls [])) (x1 : Int32) (x2 : Int32) (x3 : Int32) (x4 : Int32) (x5 : Int32) (t0 : Int32) (t1 : Int32) (σ : MS) (hM : M_near_82 N rec20 x1 x2 x3 x4 x5 t0 t1 σ = some (r, σ')) (H : Heap) (locs : List Loc) (hW : WdM D dA h A s σ H locs) (ls : Array Slot) (hl : lv_has ls 7 [(0, .ref (h 0)), (1, .int x1), (2, .int x2), (3, .int x3), (4, .int x4), (5, .int x5)]) : W p l e rm_near s m args below meth c H locs 0 0 (MQ below (QM D dA h A σ' (some (.int r))) args s 0 0 A) (F0 m 82 ls [.int t1, .int t0]) := by
  have hx := C.1.1
  have hb := C.1.2.1
  have hown := C.1.2.2.2.2.1
  have hT := C.1.2.2.2.2.2.1
  unfold M_near_82 at hM
  refine lv_icmp_ne (pc := 82) (tgt := 101) hx hb dM_near_82 (by decide) (fun hc => ?_) (fun hc => ?_)
  · replace hM := it_f hc hM
    exact bM_near_101 N rec20 C hrec20 _ _ _ _ _ _ hM _ _ hW _ (lv_sub hl [0, 1, 2, 3, 4, 5] rfl)
  · replace hM := it_t hc hM
    refine lv_iload_n (pc := 85) hx hb dM_near_85 rfl (lv_at hl 2 rfl) ?_
    refine lv_if_eq (pc := 86) (tgt := 97) hx hb dM_near_86 (by decide) (fun hc => ?_) (fun hc => ?_)
    · replace hM := it_t hc hM
      exact bM_near_97 N rec20 C hrec20 _ _ _ _ _ hM _ _ hW _ (lv_sub hl [0, 1, 2, 3, 5] rfl)
    · replace hM := it_f hc hM
      refine lv_iload (pc := 89) hx hb dM_near_89 (lv_at hl 4 rfl) ?_
      refine lv_if_lt (pc := 91) (tgt := 97) hx hb dM_near_91 (by decide) (fun hc => ?_) (fun hc => ?_)
      · replace hM := it_t hc hM
        exact bM_near_97 N rec20 C hrec20 _ _ _ _ _ hM _ _ hW _ (lv_sub hl [0, 1, 2, 3, 5] rfl)
      · replace hM := it_f hc hM
        refine lv_goto (pc := 94) (tgt := 101) hx hb dM_near_94 (by decide) ?_
        exact bM_near_101 N rec20 C hrec20 _ _ _ _ _ _ hM _ _ hW _ (lv_sub hl [0, 1, 2, 3, 4, 5] rfl)
def M_near_20 (N : Nat)  : Nat → Int32 → Int32 → Int32 → Int32 → Int32 → MS → Option (Int32 × MS)
  | 0 => fun _ _ _ _ _ _ => none
  | n + 1 => fun x1 x2 x3 x4 x5 σ => (if (σ.1 5) ≤ x5 then (if (σ.1 24) = 0 then (if 0 ≤ x4 then M_near_125 N  x4 (0 : Int32) σ else M_near_120 N  x4 σ) else M_near_120 N  x4 σ) else gd (inB x5 2060) (bnd ((σ.2 5 x5.toNatClampNeg) &&& (8191 : Int32)) (fun y2 => gd (inB x5 2060) ((if ((σ.2 5 x5.toNatClampNeg) >>> ((13 : Int32) &&& 31)) < (3 : Int32) then M_near_101 N (M_near_20 N  n) x1 x2 x3 x4 x5 σ else gd (inB y2 4100) ((if ((σ.2 1 y2.toNatClampNeg) - (48 : Int32)) = x1 then (if y2 ≤ x3 then M_near_82 N (M_near_20 N  n) x1 x2 x3 x4 x5 x2 (0 : Int32) σ else M_near_82 N (M_near_20 N  n) x1 x2 x3 x4 x5 x2 (1 : Int32) σ) else M_near_101 N (M_near_20 N  n) x1 x2 x3 x4 x5 σ)))))))
set_option maxHeartbeats 4000000 in
set_option maxRecDepth 100000 in
theorem bM_near_20 (N : Nat)  {r : Int32} {σ' : MS} (C : CxM p s m args meth c cM_near 7 (some .int) D dA A) : ∀ (n : Nat) (x1 : Int32) (x2 : Int32) (x3 : Int32) (x4 : Int32) (x5 : Int32) (σ : MS), M_near_20 N  n x1 x2 x3 x4 x5 σ = some (r, σ') → ∀ (H : Heap) (locs : List Loc), WdM D dA h A s σ H locs → ∀ (ls : Array Slot), lv_has ls 7 [(0, .ref (h 0)), (1, .int x1), (2, .int x2), (3, .int x3), (4, .int x4), (5, .int x5)] → W p l e rm_near s m args below meth c H locs 0 0 (MQ below (QM D dA h A σ' (some (.int r))) args s 0 0 A) (F0 m 20 ls []) := by
  have hx := C.1.1
  have hb := C.1.2.1
  have hown := C.1.2.2.2.2.1
  have hT := C.1.2.2.2.2.2.1
  intro n
  induction n with
  | zero => intro x1 x2 x3 x4 x5 σ hM; cases hM
  | succ n hrec20 =>
    intro x1 x2 x3 x4 x5 σ hM H locs hW ls hl
    rw [M_near_20] at hM
    refine lv_iload (pc := 20) hx hb dM_near_20 (lv_at hl 5 rfl) ?_
    refine lv_aload_n (pc := 22) hx hb dM_near_22 rfl (lv_at hl 0 rfl) ?_
    refine gM (pc := 23) C hW 13 (by decide) q_1670 rfl rfl dM_near_23 ?_
    refine lv_icmp_ge (pc := 26) (tgt := 107) hx hb dM_near_26 (by decide) (fun hc => ?_) (fun hc => ?_)
    · replace hM := it_t hc hM
      refine lv_aload_n (pc := 107) hx hb dM_near_107 rfl (lv_at hl 0 rfl) ?_
      refine lv_aload_n (pc := 108) hx hb dM_near_108 rfl (lv_at hl 0 rfl) ?_
      refine gM (pc := 109) C hW 34 (by decide) q_1691 rfl rfl dM_near_109 ?_
      refine lv_if_ne (pc := 112) (tgt := 120) hx hb dM_near_112 (by decide) (fun hc => ?_) (fun hc => ?_)
      · replace hM := it_f hc hM
        exact bM_near_120 N  C  _ _ hM _ _ hW _ (lv_sub hl [0, 4] rfl)
      · replace hM := it_t hc hM
        refine lv_iload (pc := 115) hx hb dM_near_115 (lv_at hl 4 rfl) ?_
        refine lv_if_ge (pc := 117) (tgt := 124) hx hb dM_near_117 (by decide) (fun hc => ?_) (fun hc => ?_)
        · replace hM := it_t hc hM
          refine lv_iconst (pc := 124) (v := 0) hx hb dM_near_124 (by decide) ?_
          exact bM_near_125 N  C  _ _ _ hM _ _ hW _ (lv_sub hl [0, 4] rfl)
        · replace hM := it_f hc hM
          exact bM_near_120 N  C  _ _ hM _ _ hW _ (lv_sub hl [0, 4] rfl)
    · replace hM := it_f hc hM
      refine lv_aload_n (pc := 29) hx hb dM_near_29 rfl (lv_at hl 0 rfl) ?_
      refine gM (pc := 30) C hW 14 (by decide) q_1671 rfl rfl dM_near_30 ?_
      refine lv_iload (pc := 33) hx hb dM_near_33 (lv_at hl 5 rfl) ?_
      obtain ⟨hg1, hM⟩ := gd_some hM
      refine x_ldI (pc := 35) C hW 9 rfl hg1 dM_near_35 ?_
      refine lv_sipush (pc := 36) (v := 8191) hx hb dM_near_36 (by decide) ?_
      refine lv_iand (pc := 39) hx hb dM_near_39 ?_
      obtain ⟨y2, ey2, hM⟩ := bnd_some hM
      refine x_seti ey2 ?_
      refine lv_istore (pc := 40) (lv' := [(6, .int y2), (0, .ref (h 0)), (1, .int x1), (2, .int x2), (3, .int x3), (4, .int x4), (5, .int x5)]) hx hb dM_near_40 hl (by decide) rfl (fun ls hl => ?_)
      refine lv_aload_n (pc := 42) hx hb dM_near_42 rfl (lv_at hl 1 rfl) ?_
      refine gM (pc := 43) C hW 14 (by decide) q_1671 rfl rfl dM_near_43 ?_
      refine lv_iload (pc := 46) hx hb dM_near_46 (lv_at hl 6 rfl) ?_
      obtain ⟨hg3, hM⟩ := gd_some hM
      refine x_ldI (pc := 48) C hW 9 rfl hg3 dM_near_48 ?_
      refine lv_bipush (pc := 49) (v := 13) hx hb dM_near_49 (by decide) ?_
      refine lv_ishr (pc := 51) hx hb dM_near_51 ?_
      refine lv_iconst (pc := 52) (v := 3) hx hb dM_near_52 (by decide) ?_
      refine lv_icmp_lt (pc := 53) (tgt := 101) hx hb dM_near_53 (by decide) (fun hc => ?_) (fun hc => ?_)
      · replace hM := it_t hc hM
        exact bM_near_101 N _ C hrec20 _ _ _ _ _ _ hM _ _ hW _ (lv_sub hl [1, 2, 3, 4, 5, 6] rfl)
      · replace hM := it_f hc hM
        refine lv_aload_n (pc := 56) hx hb dM_near_56 rfl (lv_at hl 1 rfl) ?_
        refine gM (pc := 57) C hW 6 (by decide) q_1663 rfl rfl dM_near_57 ?_
        refine lv_iload (pc := 60) hx hb dM_near_60 (lv_at hl 0 rfl) ?_
        obtain ⟨hg4, hM⟩ := gd_some hM
        refine x_ldC (pc := 62) C hW 5 rfl hg4 dM_near_62 ?_
        refine lv_bipush (pc := 63) (v := 48) hx hb dM_near_63 (by decide) ?_
        refine lv_isub (pc := 65) hx hb dM_near_65 ?_
        refine lv_iload_n (pc := 66) hx hb dM_near_66 rfl (lv_at hl 2 rfl) ?_
        refine lv_icmp_ne (pc := 67) (tgt := 101) hx hb dM_near_67 (by decide) (fun hc => ?_) (fun hc => ?_)
        · replace hM := it_f hc hM
          exact bM_near_101 N _ C hrec20 _ _ _ _ _ _ hM _ _ hW _ (lv_sub hl [1, 2, 3, 4, 5, 6] rfl)
        · replace hM := it_t hc hM
          refine lv_iload_n (pc := 70) hx hb dM_near_70 rfl (lv_at hl 3 rfl) ?_
          refine lv_iload (pc := 71) hx hb dM_near_71 (lv_at hl 0 rfl) ?_
          refine lv_iload_n (pc := 73) hx hb dM_near_73 rfl (lv_at hl 4 rfl) ?_
          refine lv_icmp_le (pc := 74) (tgt := 81) hx hb dM_near_74 (by decide) (fun hc => ?_) (fun hc => ?_)
          · replace hM := it_t hc hM
            refine lv_iconst (pc := 81) (v := 0) hx hb dM_near_81 (by decide) ?_
            exact bM_near_82 N _ C hrec20 _ _ _ _ _ _ _ _ hM _ _ hW _ (lv_sub hl [1, 2, 3, 4, 5, 6] rfl)
          · replace hM := it_f hc hM
            refine lv_iconst (pc := 77) (v := 1) hx hb dM_near_77 (by decide) ?_
            refine lv_goto (pc := 78) (tgt := 82) hx hb dM_near_78 (by decide) ?_
            exact bM_near_82 N _ C hrec20 _ _ _ _ _ _ _ _ hM _ _ hW _ (lv_sub hl [1, 2, 3, 4, 5, 6] rfl)
def M_near (N : Nat) (x1 : Int32) (x2 : Int32) (σ : MS) : Option (Int32 × MS) :=
  gd (inB (σ.1 18) 1030) (bnd ((σ.2 2 (σ.1 18).toNatClampNeg) &&& (8191 : Int32)) (fun y2 => M_near_20 N  N x1 x2 y2 (-1 : Int32) (0 : Int32) σ))
set_option maxHeartbeats 4000000 in
set_option maxRecDepth 100000 in
theorem bM_near_0 (N : Nat)  {r : Int32} {σ' : MS} (C : CxM p s m args meth c cM_near 7 (some .int) D dA A) (x1 : Int32) (x2 : Int32) (σ : MS) (hM : M_near N  x1 x2 σ = some (r, σ')) (H : Heap) (locs : List Loc) (hW : WdM D dA h A s σ H locs) (ls : Array Slot) (hl : lv_has ls 7 [(0, .ref (h 0)), (1, .int x1), (2, .int x2)]) : W p l e rm_near s m args below meth c H locs 0 0 (MQ below (QM D dA h A σ' (some (.int r))) args s 0 0 A) (F0 m 0 ls []) := by
  have hx := C.1.1
  have hb := C.1.2.1
  have hown := C.1.2.2.2.2.1
  have hT := C.1.2.2.2.2.2.1
  unfold M_near at hM
  refine lv_aload_n (pc := 0) hx hb dM_near_0 rfl (lv_at hl 0 rfl) ?_
  refine gM (pc := 1) C hW 10 (by decide) q_1667 rfl rfl dM_near_1 ?_
  refine lv_aload_n (pc := 4) hx hb dM_near_4 rfl (lv_at hl 0 rfl) ?_
  refine gM (pc := 5) C hW 28 (by decide) q_1685 rfl rfl dM_near_5 ?_
  obtain ⟨hg1, hM⟩ := gd_some hM
  refine x_ldI (pc := 8) C hW 6 rfl hg1 dM_near_8 ?_
  refine lv_sipush (pc := 9) (v := 8191) hx hb dM_near_9 (by decide) ?_
  refine lv_iand (pc := 12) hx hb dM_near_12 ?_
  obtain ⟨y2, ey2, hM⟩ := bnd_some hM
  refine x_seti ey2 ?_
  refine lv_istore_n (pc := 13) (lv' := [(3, .int y2), (0, .ref (h 0)), (1, .int x1), (2, .int x2)]) hx hb dM_near_13 rfl hl (by decide) rfl (fun ls hl => ?_)
  refine lv_iconst (pc := 14) (v := -1) hx hb dM_near_14 (by decide) ?_
  refine lv_istore (pc := 15) (lv' := [(4, .int (-1 : Int32)), (3, .int y2), (0, .ref (h 0)), (1, .int x1), (2, .int x2)]) hx hb dM_near_15 hl (by decide) rfl (fun ls hl => ?_)
  refine lv_iconst (pc := 17) (v := 0) hx hb dM_near_17 (by decide) ?_
  refine lv_istore (pc := 18) (lv' := [(5, .int (0 : Int32)), (4, .int (-1 : Int32)), (3, .int y2), (0, .ref (h 0)), (1, .int x1), (2, .int x2)]) hx hb dM_near_18 hl (by decide) rfl (fun ls hl => ?_)
  exact bM_near_20 N  C  N _ _ _ _ _ _ hM _ _ hW _ (lv_sub hl [3, 4, 5, 2, 1, 0] rfl)
theorem kM_near (l : Launch) (D : va_G) (dA : Nat → ClassId) (h : Nat → Nat) (N : Nat) (x1 : Int32) (x2 : Int32) (σ : MS) {r : Int32} {σ' : MS} (hM : M_near N x1 x2 σ = some (r, σ')) : KM l D dA yM_near cM_near 7 (some .int) rm_near h σ [.int x1, .int x2] (some (.int r)) σ' := x_enterM rfl (Nat.le_of_ble_eq_true rfl) (fun p e s m args below meth c A C hW ls hl => bM_near_0 N C x1 x2 σ hM s.heap [] hW ls hl)
def M_sign (x1 : Int32) (σ : MS) : Option (Int32 × MS) :=
  gd (inB (σ.1 27) 4100) (bnd (sA σ 7 (σ.1 27).toNatClampNeg x1) (fun σ2 => bnd (sF σ2 27 ((σ2.1 27) + (1 : Int32))) (fun σ3 => some ((0 : Int32), σ3))))
set_option maxHeartbeats 4000000 in
set_option maxRecDepth 100000 in
theorem bM_sign_0  {r : Int32} {σ' : MS} (C : CxM p s m args meth c cM_sign 2 none D dA A) (x1 : Int32) (σ : MS) (hM : M_sign  x1 σ = some (r, σ')) (H : Heap) (locs : List Loc) (hW : WdM D dA h A s σ H locs) (ls : Array Slot) (hl : lv_has ls 2 [(0, .ref (h 0)), (1, .int x1)]) : W p l e rm_sign s m args below meth c H locs 0 0 (MQ below (QM D dA h A σ' none) args s 0 0 A) (F0 m 0 ls []) := by
  have hx := C.1.1
  have hb := C.1.2.1
  have hown := C.1.2.2.2.2.1
  have hT := C.1.2.2.2.2.2.1
  unfold M_sign at hM
  refine lv_aload_n (pc := 0) hx hb dM_sign_0 rfl (lv_at hl 0 rfl) ?_
  refine gM (pc := 1) C hW 37 (by decide) q_1694 rfl rfl dM_sign_1 ?_
  refine lv_aload_n (pc := 4) hx hb dM_sign_4 rfl (lv_at hl 0 rfl) ?_
  refine gM (pc := 5) C hW 38 (by decide) q_1695 rfl rfl dM_sign_5 ?_
  refine lv_iload_n (pc := 8) hx hb dM_sign_8 rfl (lv_at hl 1 rfl) ?_
  obtain ⟨hg1, hM⟩ := gd_some hM
  refine x_stI (pc := 9) C hW 11 7 rfl hg1 (sa_pile dA h _ _ _) dM_sign_9 (fun H locs hW => ?_)
  obtain ⟨σ2, eσ2, hM⟩ := bnd_some hM
  rw [← eσ2] at hW
  refine lv_aload_n (pc := 10) hx hb dM_sign_10 rfl (lv_at hl 0 rfl) ?_
  refine lv_dup (pc := 11) hx hb dM_sign_11 rfl ?_
  refine gM (pc := 12) C hW 38 (by decide) q_1695 rfl rfl dM_sign_12 ?_
  refine lv_iconst (pc := 15) (v := 1) hx hb dM_sign_15 (by decide) ?_
  refine lv_iadd (pc := 16) hx hb dM_sign_16 ?_
  refine pM (pc := 17) (ty := .int) C hW 38 27 (by decide) q_1695 rfl rfl (by decide +kernel) rfl rfl (st_signs dA h _ _) dM_sign_17 (fun H locs hW => ?_)
  obtain ⟨σ3, eσ3, hM⟩ := bnd_some hM
  rw [← eσ3] at hW
  obtain ⟨rfl, rfl⟩ := sm_p hM
  exact x_retMv (pc := 20) C rfl hW dM_sign_20
theorem kM_sign (l : Launch) (D : va_G) (dA : Nat → ClassId) (h : Nat → Nat) (x1 : Int32) (σ : MS) {r : Int32} {σ' : MS} (hM : M_sign x1 σ = some (r, σ')) : KM l D dA yM_sign cM_sign 2 none rm_sign h σ [.int x1] none σ' := x_enterM rfl (Nat.le_of_ble_eq_true rfl) (fun p e s m args below meth c A C hW ls hl => bM_sign_0 C x1 σ hM s.heap [] hW ls hl)
def M_operand_242 (N : Nat)  (σ : MS) : Option (Int32 × MS) :=
  cl (M_bind N σ) (fun r1 σ2 => some ((1 : Int32), σ2))
set_option maxHeartbeats 4000000 in
set_option maxRecDepth 100000 in
theorem bM_operand_242 (N : Nat)  {r : Int32} {σ' : MS} (C : CxM p s m args meth c cM_operand 3 (some .boolean) D dA A)  (σ : MS) (hM : M_operand_242 N   σ = some (r, σ')) (H : Heap) (locs : List Loc) (hW : WdM D dA h A s σ H locs) (ls : Array Slot) (hl : lv_has ls 3 [(0, .ref (h 0))]) : W p l e rm_operand s m args below meth c H locs 0 0 (MQ below (QM D dA h A σ' (some (.int r))) args s 0 0 A) (F0 m 242 ls []) := by
  have hx := C.1.1
  have hb := C.1.2.1
  have hown := C.1.2.2.2.2.1
  have hT := C.1.2.2.2.2.2.1
  unfold M_operand_242 at hM
  refine lv_aload_n (pc := 242) hx hb dM_operand_242 rfl (lv_at hl 0 rfl) ?_
  obtain ⟨r1, σ2, hr1, hM⟩ := cl_some hM
  refine x_callMv (pc := 243) C hW (kM_bind l D dA h N _ hr1) gM_bind_518 ⟨rfl, by decide, by decide, by decide +kernel⟩ ⟨rfl, rfl⟩ ⟨by decide, by decide⟩ ⟨by decide, by decide⟩ (As := []) (n := 0) rfl hl.1 rfl (Nat.le_of_ble_eq_true rfl) dM_operand_243 (fun H locs hW => ?_)
  refine lv_iconst (pc := 246) (v := 1) hx hb dM_operand_246 (by decide) ?_
  obtain ⟨rfl, rfl⟩ := sm_p hM
  exact x_retMz (pc := 247) C rfl rfl hW dM_operand_247
def M_operand_122 (N : Nat) (t2 : Int32) (t3 : Int32) (σ : MS) : Option (Int32 × MS) :=
  cl (M_near N t2 t3 σ) (fun r1 σ2 => cl (M_value  r1 σ2) (fun r3 σ4 => M_operand_242 N  σ4))
set_option maxHeartbeats 4000000 in
set_option maxRecDepth 100000 in
theorem bM_operand_122 (N : Nat)  {r : Int32} {σ' : MS} (C : CxM p s m args meth c cM_operand 3 (some .boolean) D dA A) (t2 : Int32) (t3 : Int32) (σ : MS) (hM : M_operand_122 N  t2 t3 σ = some (r, σ')) (H : Heap) (locs : List Loc) (hW : WdM D dA h A s σ H locs) (ls : Array Slot) (hl : lv_has ls 3 [(0, .ref (h 0))]) : W p l e rm_operand s m args below meth c H locs 0 0 (MQ below (QM D dA h A σ' (some (.int r))) args s 0 0 A) (F0 m 122 ls [.int t3, .int t2, .ref (h 0), .ref (h 0)]) := by
  have hx := C.1.1
  have hb := C.1.2.1
  have hown := C.1.2.2.2.2.1
  have hT := C.1.2.2.2.2.2.1
  unfold M_operand_122 at hM
  obtain ⟨r1, σ2, hr1, hM⟩ := cl_some hM
  refine x_callMi (pc := 122) C hW (kM_near l D dA h N t2 t3 _ hr1) gM_near_504 ⟨rfl, by decide, by decide, by decide +kernel⟩ ⟨rfl, rfl⟩ ⟨by decide, by decide⟩ ⟨by decide, by decide⟩ (As := [.int t2, .int t3]) (n := 2) rfl hl.1 rfl (Nat.le_of_ble_eq_true rfl) dM_operand_122 (fun H locs hW => ?_)
  obtain ⟨r3, σ4, hr3, hM⟩ := cl_some hM
  refine x_callMv (pc := 125) C hW (kM_value l D dA h  r1 _ hr3) gM_value_498 ⟨rfl, by decide, by decide, by decide +kernel⟩ ⟨rfl, rfl⟩ ⟨by decide, by decide⟩ ⟨by decide, by decide⟩ (As := [.int r1]) (n := 1) rfl hl.1 rfl (Nat.le_of_ble_eq_true rfl) dM_operand_125 (fun H locs hW => ?_)
  refine lv_goto (pc := 128) (tgt := 242) hx hb dM_operand_128 (by decide) ?_
  exact bM_operand_242 N  C   _ hM _ _ hW _ (lv_sub hl [0] rfl)
def M_operand_233 (N : Nat)  (σ : MS) : Option (Int32 × MS) :=
  some ((0 : Int32), σ)
set_option maxHeartbeats 4000000 in
set_option maxRecDepth 100000 in
theorem bM_operand_233 (N : Nat)  {r : Int32} {σ' : MS} (C : CxM p s m args meth c cM_operand 3 (some .boolean) D dA A)  (σ : MS) (hM : M_operand_233 N   σ = some (r, σ')) (H : Heap) (locs : List Loc) (hW : WdM D dA h A s σ H locs) (ls : Array Slot) (hl : lv_has ls 3 []) : W p l e rm_operand s m args below meth c H locs 0 0 (MQ below (QM D dA h A σ' (some (.int r))) args s 0 0 A) (F0 m 233 ls []) := by
  have hx := C.1.1
  have hb := C.1.2.1
  have hown := C.1.2.2.2.2.1
  have hT := C.1.2.2.2.2.2.1
  unfold M_operand_233 at hM
  refine lv_iconst (pc := 233) (v := 0) hx hb dM_operand_233 (by decide) ?_
  obtain ⟨rfl, rfl⟩ := sm_p hM
  exact x_retMz (pc := 234) C rfl rfl hW dM_operand_234
def M_operand_216 (N : Nat) (t1 : Int32) (σ : MS) : Option (Int32 × MS) :=
  cl (M_sign  t1 σ) (fun r1 σ2 => cl (M_needs N (40 : Int32) σ2) (fun r3 σ4 => (if r3 = 0 then M_operand_233 N  σ4 else cl (M_sign  (1 : Int32) σ4) (fun r5 σ6 => M_operand_233 N  σ6))))
set_option maxHeartbeats 4000000 in
set_option maxRecDepth 100000 in
theorem bM_operand_216 (N : Nat)  {r : Int32} {σ' : MS} (C : CxM p s m args meth c cM_operand 3 (some .boolean) D dA A) (t1 : Int32) (σ : MS) (hM : M_operand_216 N  t1 σ = some (r, σ')) (H : Heap) (locs : List Loc) (hW : WdM D dA h A s σ H locs) (ls : Array Slot) (hl : lv_has ls 3 [(0, .ref (h 0))]) : W p l e rm_operand s m args below meth c H locs 0 0 (MQ below (QM D dA h A σ' (some (.int r))) args s 0 0 A) (F0 m 216 ls [.int t1, .ref (h 0)]) := by
  have hx := C.1.1
  have hb := C.1.2.1
  have hown := C.1.2.2.2.2.1
  have hT := C.1.2.2.2.2.2.1
  unfold M_operand_216 at hM
  obtain ⟨r1, σ2, hr1, hM⟩ := cl_some hM
  refine x_callMv (pc := 216) C hW (kM_sign l D dA h  t1 _ hr1) gM_sign_508 ⟨rfl, by decide, by decide, by decide +kernel⟩ ⟨rfl, rfl⟩ ⟨by decide, by decide⟩ ⟨by decide, by decide⟩ (As := [.int t1]) (n := 1) rfl hl.1 rfl (Nat.le_of_ble_eq_true rfl) dM_operand_216 (fun H locs hW => ?_)
  refine lv_aload_n (pc := 219) hx hb dM_operand_219 rfl (lv_at hl 0 rfl) ?_
  refine lv_bipush (pc := 220) (v := 40) hx hb dM_operand_220 (by decide) ?_
  obtain ⟨r3, σ4, hr3, hM⟩ := cl_some hM
  refine x_callMi (pc := 222) C hW (kM_needs l D dA h N (40 : Int32) _ hr3) gM_needs_515 ⟨rfl, by decide, by decide, by decide +kernel⟩ ⟨rfl, rfl⟩ ⟨by decide, by decide⟩ ⟨by decide, by decide⟩ (As := [.int (40 : Int32)]) (n := 1) rfl hl.1 rfl (Nat.le_of_ble_eq_true rfl) dM_operand_222 (fun H locs hW => ?_)
  refine lv_if_eq (pc := 225) (tgt := 233) hx hb dM_operand_225 (by decide) (fun hc => ?_) (fun hc => ?_)
  · replace hM := it_t hc hM
    exact bM_operand_233 N  C   _ hM _ _ hW _ (lv_sub hl [] rfl)
  · replace hM := it_f hc hM
    refine lv_aload_n (pc := 228) hx hb dM_operand_228 rfl (lv_at hl 0 rfl) ?_
    refine lv_iconst (pc := 229) (v := 1) hx hb dM_operand_229 (by decide) ?_
    obtain ⟨r5, σ6, hr5, hM⟩ := cl_some hM
    refine x_callMv (pc := 230) C hW (kM_sign l D dA h  (1 : Int32) _ hr5) gM_sign_508 ⟨rfl, by decide, by decide, by decide +kernel⟩ ⟨rfl, rfl⟩ ⟨by decide, by decide⟩ ⟨by decide, by decide⟩ (As := [.int (1 : Int32)]) (n := 1) rfl hl.1 rfl (Nat.le_of_ble_eq_true rfl) dM_operand_230 (fun H locs hW => ?_)
    exact bM_operand_233 N  C   _ hM _ _ hW _ (lv_sub hl [] rfl)
def M_operand_202 (N : Nat) (z1 : Int64) (σ : MS) : Option (Int32 × MS) :=
  (if (lg_cmp z1 (584 : Int64)) = 0 then M_operand_216 N  (4 : Int32) σ else M_operand_216 N  (5 : Int32) σ)
set_option maxHeartbeats 4000000 in
set_option maxRecDepth 100000 in
theorem bM_operand_202 (N : Nat)  {r : Int32} {σ' : MS} (C : CxM p s m args meth c cM_operand 3 (some .boolean) D dA A) (z1 : Int64) (σ : MS) (hM : M_operand_202 N  z1 σ = some (r, σ')) (H : Heap) (locs : List Loc) (hW : WdM D dA h A s σ H locs) (ls : Array Slot) (hl : lv_has ls 3 [(0, .ref (h 0)), (1, .long z1)]) : W p l e rm_operand s m args below meth c H locs 0 0 (MQ below (QM D dA h A σ' (some (.int r))) args s 0 0 A) (F0 m 202 ls []) := by
  have hx := C.1.1
  have hb := C.1.2.1
  have hown := C.1.2.2.2.2.1
  have hT := C.1.2.2.2.2.2.1
  unfold M_operand_202 at hM
  refine lv_aload_n (pc := 202) hx hb dM_operand_202 rfl (lv_at hl 0 rfl) ?_
  refine lv_lload_n (pc := 203) hx hb dM_operand_203 rfl (lv_at hl 1 rfl) ?_
  refine lv_ldc2 (pc := 204) (v := 584) hx hb hown (hT _ q_1955) dM_operand_204 ?_
  refine W.lcmp (pc := 207) hx hb dM_operand_207 ?_
  refine lv_if_ne (pc := 208) (tgt := 215) hx hb dM_operand_208 (by decide) (fun hc => ?_) (fun hc => ?_)
  · replace hM := it_f hc hM
    refine lv_iconst (pc := 215) (v := 5) hx hb dM_operand_215 (by decide) ?_
    exact bM_operand_216 N  C  _ _ hM _ _ hW _ (lv_sub hl [0] rfl)
  · replace hM := it_t hc hM
    refine lv_iconst (pc := 211) (v := 4) hx hb dM_operand_211 (by decide) ?_
    refine lv_goto (pc := 212) (tgt := 216) hx hb dM_operand_212 (by decide) ?_
    exact bM_operand_216 N  C  _ _ hM _ _ hW _ (lv_sub hl [0] rfl)
def M_operand_180 (N : Nat) (t0 : Int64) (σ : MS) : Option (Int32 × MS) :=
  (if (lg_cmp t0 (584 : Int64)) = 0 then M_operand_202 N  t0 σ else (if (lg_cmp t0 (972 : Int64)) = 0 then M_operand_202 N  t0 σ else cl (M_blame  (1 : Int32) σ) (fun r1 σ2 => M_operand_202 N  t0 σ2)))
set_option maxHeartbeats 4000000 in
set_option maxRecDepth 100000 in
theorem bM_operand_180 (N : Nat)  {r : Int32} {σ' : MS} (C : CxM p s m args meth c cM_operand 3 (some .boolean) D dA A) (t0 : Int64) (σ : MS) (hM : M_operand_180 N  t0 σ = some (r, σ')) (H : Heap) (locs : List Loc) (hW : WdM D dA h A s σ H locs) (ls : Array Slot) (hl : lv_has ls 3 [(0, .ref (h 0))]) : W p l e rm_operand s m args below meth c H locs 0 0 (MQ below (QM D dA h A σ' (some (.int r))) args s 0 0 A) (F0 m 180 ls [.long t0]) := by
  have hx := C.1.1
  have hb := C.1.2.1
  have hown := C.1.2.2.2.2.1
  have hT := C.1.2.2.2.2.2.1
  unfold M_operand_180 at hM
  refine lv_lstore_n (pc := 180) (lv' := [(1, .long t0), (0, .ref (h 0))]) hx hb dM_operand_180 rfl hl (by decide) rfl (fun ls hl => ?_)
  refine lv_lload_n (pc := 181) hx hb dM_operand_181 rfl (lv_at hl 0 rfl) ?_
  refine lv_ldc2 (pc := 182) (v := 584) hx hb hown (hT _ q_1955) dM_operand_182 ?_
  refine W.lcmp (pc := 185) hx hb dM_operand_185 ?_
  refine lv_if_eq (pc := 186) (tgt := 202) hx hb dM_operand_186 (by decide) (fun hc => ?_) (fun hc => ?_)
  · replace hM := it_t hc hM
    exact bM_operand_202 N  C  _ _ hM _ _ hW _ (lv_sub hl [1, 0] rfl)
  · replace hM := it_f hc hM
    refine lv_lload_n (pc := 189) hx hb dM_operand_189 rfl (lv_at hl 0 rfl) ?_
    refine lv_ldc2 (pc := 190) (v := 972) hx hb hown (hT _ q_1956) dM_operand_190 ?_
    refine W.lcmp (pc := 193) hx hb dM_operand_193 ?_
    refine lv_if_eq (pc := 194) (tgt := 202) hx hb dM_operand_194 (by decide) (fun hc => ?_) (fun hc => ?_)
    · replace hM := it_t hc hM
      exact bM_operand_202 N  C  _ _ hM _ _ hW _ (lv_sub hl [1, 0] rfl)
    · replace hM := it_f hc hM
      refine lv_aload_n (pc := 197) hx hb dM_operand_197 rfl (lv_at hl 1 rfl) ?_
      refine lv_iconst (pc := 198) (v := 1) hx hb dM_operand_198 (by decide) ?_
      obtain ⟨r1, σ2, hr1, hM⟩ := cl_some hM
      refine x_callMv (pc := 199) C hW (kM_blame l D dA h  (1 : Int32) _ hr1) gM_blame_429 ⟨rfl, by decide, by decide, by decide +kernel⟩ ⟨rfl, rfl⟩ ⟨by decide, by decide⟩ ⟨by decide, by decide⟩ (As := [.int (1 : Int32)]) (n := 1) rfl hl.1 rfl (Nat.le_of_ble_eq_true rfl) dM_operand_199 (fun H locs hW => ?_)
      exact bM_operand_202 N  C  _ _ hM _ _ hW _ (lv_sub hl [1, 0] rfl)
def M_operand (N : Nat)  (σ : MS) : Option (Int32 × MS) :=
  (if (σ.1 10) = (1 : Int32) then cl (M_name N σ) (fun r2 σ3 => M_operand_242 N  σ3) else (if (σ.1 10) = (2 : Int32) then cl (M_value  (σ.1 13) σ) (fun r4 σ5 => M_operand_242 N  σ5) else (if (σ.1 10) = (3 : Int32) then bnd (sF σ 26 (1 : Int32)) (fun σ6 => gd (inB ((σ6.1 12) - (1 : Int32)) 4100) ((if (σ6.2 1 ((σ6.1 12) - (1 : Int32)).toNatClampNeg) = (102 : Int32) then M_operand_122 N  (σ6.1 13) (1 : Int32) σ6 else M_operand_122 N  (σ6.1 13) (0 : Int32) σ6))) else (if (σ.1 10) = (37 : Int32) then cl (M_scan N σ) (fun r8 σ9 => (if (σ9.1 10) = (1 : Int32) then cr (M_packed N (σ9.1 11) (σ9.1 12) σ9) (fun r10 => M_operand_180 N  r10 σ9) else M_operand_180 N  (0 : Int64) σ9)) else (if (σ.1 10) = (40 : Int32) then cl (M_sign  (1 : Int32) σ) (fun r11 σ12 => some ((0 : Int32), σ12)) else (if (σ.1 10) = (45 : Int32) then cl (M_sign  (2 : Int32) σ) (fun r13 σ14 => some ((0 : Int32), σ14)) else (if (σ.1 10) = (126 : Int32) then cl (M_sign  (3 : Int32) σ) (fun r15 σ16 => some ((0 : Int32), σ16)) else cl (M_blame  (1 : Int32) σ) (fun r17 σ18 => some ((0 : Int32), σ18)))))))))
set_option maxHeartbeats 4000000 in
set_option maxRecDepth 100000 in
theorem bM_operand_0 (N : Nat)  {r : Int32} {σ' : MS} (C : CxM p s m args meth c cM_operand 3 (some .boolean) D dA A)  (σ : MS) (hM : M_operand N   σ = some (r, σ')) (H : Heap) (locs : List Loc) (hW : WdM D dA h A s σ H locs) (ls : Array Slot) (hl : lv_has ls 3 [(0, .ref (h 0))]) : W p l e rm_operand s m args below meth c H locs 0 0 (MQ below (QM D dA h A σ' (some (.int r))) args s 0 0 A) (F0 m 0 ls []) := by
  have hx := C.1.1
  have hb := C.1.2.1
  have hown := C.1.2.2.2.2.1
  have hT := C.1.2.2.2.2.2.1
  unfold M_operand at hM
  refine lv_aload_n (pc := 0) hx hb dM_operand_0 rfl (lv_at hl 0 rfl) ?_
  refine gM (pc := 1) C hW 20 (by decide) q_1677 rfl rfl dM_operand_1 ?_
  by_cases k1_0 : (σ.1 10) = (1 : Int32)
  · replace hM := it_t k1_0 hM
    refine lv_lookup (pc := 4) (off := 68) (tgt := 72) hx hb dM_operand_4 (by decide) (by rw [k1_0]; decide) (by decide) ?_
    refine lv_aload_n (pc := 72) hx hb dM_operand_72 rfl (lv_at hl 0 rfl) ?_
    obtain ⟨r2, σ3, hr2, hM⟩ := cl_some hM
    refine x_callMv (pc := 73) C hW (kM_name l D dA h N _ hr2) gM_name_501 ⟨rfl, by decide, by decide, by decide +kernel⟩ ⟨rfl, rfl⟩ ⟨by decide, by decide⟩ ⟨by decide, by decide⟩ (As := []) (n := 0) rfl hl.1 rfl (Nat.le_of_ble_eq_true rfl) dM_operand_73 (fun H locs hW => ?_)
    refine lv_goto (pc := 76) (tgt := 242) hx hb dM_operand_76 (by decide) ?_
    exact bM_operand_242 N  C   _ hM _ _ hW _ (lv_sub hl [0] rfl)
  · replace hM := it_f k1_0 hM
    by_cases k1_1 : (σ.1 10) = (2 : Int32)
    · replace hM := it_t k1_1 hM
      refine lv_lookup (pc := 4) (off := 75) (tgt := 79) hx hb dM_operand_4 (by decide) (by rw [k1_1]; decide) (by decide) ?_
      refine lv_aload_n (pc := 79) hx hb dM_operand_79 rfl (lv_at hl 0 rfl) ?_
      refine lv_aload_n (pc := 80) hx hb dM_operand_80 rfl (lv_at hl 0 rfl) ?_
      refine gM (pc := 81) C hW 23 (by decide) q_1680 rfl rfl dM_operand_81 ?_
      obtain ⟨r4, σ5, hr4, hM⟩ := cl_some hM
      refine x_callMv (pc := 84) C hW (kM_value l D dA h  (σ.1 13) _ hr4) gM_value_498 ⟨rfl, by decide, by decide, by decide +kernel⟩ ⟨rfl, rfl⟩ ⟨by decide, by decide⟩ ⟨by decide, by decide⟩ (As := [.int (σ.1 13)]) (n := 1) rfl hl.1 rfl (Nat.le_of_ble_eq_true rfl) dM_operand_84 (fun H locs hW => ?_)
      refine lv_goto (pc := 87) (tgt := 242) hx hb dM_operand_87 (by decide) ?_
      exact bM_operand_242 N  C   _ hM _ _ hW _ (lv_sub hl [0] rfl)
    · replace hM := it_f k1_1 hM
      by_cases k1_2 : (σ.1 10) = (3 : Int32)
      · replace hM := it_t k1_2 hM
        refine lv_lookup (pc := 4) (off := 86) (tgt := 90) hx hb dM_operand_4 (by decide) (by rw [k1_2]; decide) (by decide) ?_
        refine lv_aload_n (pc := 90) hx hb dM_operand_90 rfl (lv_at hl 0 rfl) ?_
        refine lv_iconst (pc := 91) (v := 1) hx hb dM_operand_91 (by decide) ?_
        refine pM (pc := 92) (ty := .boolean) C hW 36 26 (by decide) q_1693 rfl rfl (by decide +kernel) rfl rfl (st_loose dA h _ _) dM_operand_92 (fun H locs hW => ?_)
        obtain ⟨σ6, eσ6, hM⟩ := bnd_some hM
        rw [← eσ6] at hW
        refine lv_aload_n (pc := 95) hx hb dM_operand_95 rfl (lv_at hl 0 rfl) ?_
        refine lv_aload_n (pc := 96) hx hb dM_operand_96 rfl (lv_at hl 0 rfl) ?_
        refine lv_aload_n (pc := 97) hx hb dM_operand_97 rfl (lv_at hl 0 rfl) ?_
        refine gM (pc := 98) C hW 23 (by decide) q_1680 rfl rfl dM_operand_98 ?_
        refine lv_aload_n (pc := 101) hx hb dM_operand_101 rfl (lv_at hl 0 rfl) ?_
        refine gM (pc := 102) C hW 6 (by decide) q_1663 rfl rfl dM_operand_102 ?_
        refine lv_aload_n (pc := 105) hx hb dM_operand_105 rfl (lv_at hl 0 rfl) ?_
        refine gM (pc := 106) C hW 22 (by decide) q_1679 rfl rfl dM_operand_106 ?_
        refine lv_iconst (pc := 109) (v := 1) hx hb dM_operand_109 (by decide) ?_
        refine lv_isub (pc := 110) hx hb dM_operand_110 ?_
        obtain ⟨hg7, hM⟩ := gd_some hM
        refine x_ldC (pc := 111) C hW 5 rfl hg7 dM_operand_111 ?_
        refine lv_bipush (pc := 112) (v := 102) hx hb dM_operand_112 (by decide) ?_
        refine lv_icmp_ne (pc := 114) (tgt := 121) hx hb dM_operand_114 (by decide) (fun hc => ?_) (fun hc => ?_)
        · replace hM := it_f hc hM
          refine lv_iconst (pc := 121) (v := 0) hx hb dM_operand_121 (by decide) ?_
          exact bM_operand_122 N  C  _ _ _ hM _ _ hW _ (lv_sub hl [0] rfl)
        · replace hM := it_t hc hM
          refine lv_iconst (pc := 117) (v := 1) hx hb dM_operand_117 (by decide) ?_
          refine lv_goto (pc := 118) (tgt := 122) hx hb dM_operand_118 (by decide) ?_
          exact bM_operand_122 N  C  _ _ _ hM _ _ hW _ (lv_sub hl [0] rfl)
      · replace hM := it_f k1_2 hM
        by_cases k1_3 : (σ.1 10) = (37 : Int32)
        · replace hM := it_t k1_3 hM
          refine lv_lookup (pc := 4) (off := 148) (tgt := 152) hx hb dM_operand_4 (by decide) (by rw [k1_3]; decide) (by decide) ?_
          refine lv_aload_n (pc := 152) hx hb dM_operand_152 rfl (lv_at hl 0 rfl) ?_
          obtain ⟨r8, σ9, hr8, hM⟩ := cl_some hM
          refine x_callMv (pc := 153) C hW (kM_scan l D dA h N _ hr8) gM_scan_426 ⟨rfl, by decide, by decide, by decide +kernel⟩ ⟨rfl, rfl⟩ ⟨by decide, by decide⟩ ⟨by decide, by decide⟩ (As := []) (n := 0) rfl hl.1 rfl (Nat.le_of_ble_eq_true rfl) dM_operand_153 (fun H locs hW => ?_)
          refine lv_aload_n (pc := 156) hx hb dM_operand_156 rfl (lv_at hl 0 rfl) ?_
          refine gM (pc := 157) C hW 20 (by decide) q_1677 rfl rfl dM_operand_157 ?_
          refine lv_iconst (pc := 160) (v := 1) hx hb dM_operand_160 (by decide) ?_
          refine lv_icmp_ne (pc := 161) (tgt := 179) hx hb dM_operand_161 (by decide) (fun hc => ?_) (fun hc => ?_)
          · replace hM := it_f hc hM
            refine lv_lconst (pc := 179) (v := 0) hx hb dM_operand_179 (by decide) ?_
            exact bM_operand_180 N  C  _ _ hM _ _ hW _ (lv_sub hl [0] rfl)
          · replace hM := it_t hc hM
            refine lv_aload_n (pc := 164) hx hb dM_operand_164 rfl (lv_at hl 0 rfl) ?_
            refine lv_aload_n (pc := 165) hx hb dM_operand_165 rfl (lv_at hl 0 rfl) ?_
            refine gM (pc := 166) C hW 21 (by decide) q_1678 rfl rfl dM_operand_166 ?_
            refine lv_aload_n (pc := 169) hx hb dM_operand_169 rfl (lv_at hl 0 rfl) ?_
            refine gM (pc := 170) C hW 22 (by decide) q_1679 rfl rfl dM_operand_170 ?_
            obtain ⟨r10, hr10, hM⟩ := cr_some hM
            refine x_callRl (pc := 173) C hW (kM_packed l D dA h N (σ9.1 11) (σ9.1 12) _ hr10) gM_packed_433 ⟨rfl, by decide, by decide, by decide +kernel⟩ ⟨rfl, rfl⟩ ⟨by decide, by decide⟩ ⟨by decide, by decide⟩ (As := [.int (σ9.1 11), .int (σ9.1 12)]) (n := 2) rfl hl.1 rfl (Nat.le_of_ble_eq_true rfl) dM_operand_173 ?_
            refine lv_goto (pc := 176) (tgt := 180) hx hb dM_operand_176 (by decide) ?_
            exact bM_operand_180 N  C  _ _ hM _ _ hW _ (lv_sub hl [0] rfl)
        · replace hM := it_f k1_3 hM
          by_cases k1_4 : (σ.1 10) = (40 : Int32)
          · replace hM := it_t k1_4 hM
            refine lv_lookup (pc := 4) (off := 127) (tgt := 131) hx hb dM_operand_4 (by decide) (by rw [k1_4]; decide) (by decide) ?_
            refine lv_aload_n (pc := 131) hx hb dM_operand_131 rfl (lv_at hl 0 rfl) ?_
            refine lv_iconst (pc := 132) (v := 1) hx hb dM_operand_132 (by decide) ?_
            obtain ⟨r11, σ12, hr11, hM⟩ := cl_some hM
            refine x_callMv (pc := 133) C hW (kM_sign l D dA h  (1 : Int32) _ hr11) gM_sign_508 ⟨rfl, by decide, by decide, by decide +kernel⟩ ⟨rfl, rfl⟩ ⟨by decide, by decide⟩ ⟨by decide, by decide⟩ (As := [.int (1 : Int32)]) (n := 1) rfl hl.1 rfl (Nat.le_of_ble_eq_true rfl) dM_operand_133 (fun H locs hW => ?_)
            refine lv_iconst (pc := 136) (v := 0) hx hb dM_operand_136 (by decide) ?_
            obtain ⟨rfl, rfl⟩ := sm_p hM
            exact x_retMz (pc := 137) C rfl rfl hW dM_operand_137
          · replace hM := it_f k1_4 hM
            by_cases k1_5 : (σ.1 10) = (45 : Int32)
            · replace hM := it_t k1_5 hM
              refine lv_lookup (pc := 4) (off := 134) (tgt := 138) hx hb dM_operand_4 (by decide) (by rw [k1_5]; decide) (by decide) ?_
              refine lv_aload_n (pc := 138) hx hb dM_operand_138 rfl (lv_at hl 0 rfl) ?_
              refine lv_iconst (pc := 139) (v := 2) hx hb dM_operand_139 (by decide) ?_
              obtain ⟨r13, σ14, hr13, hM⟩ := cl_some hM
              refine x_callMv (pc := 140) C hW (kM_sign l D dA h  (2 : Int32) _ hr13) gM_sign_508 ⟨rfl, by decide, by decide, by decide +kernel⟩ ⟨rfl, rfl⟩ ⟨by decide, by decide⟩ ⟨by decide, by decide⟩ (As := [.int (2 : Int32)]) (n := 1) rfl hl.1 rfl (Nat.le_of_ble_eq_true rfl) dM_operand_140 (fun H locs hW => ?_)
              refine lv_iconst (pc := 143) (v := 0) hx hb dM_operand_143 (by decide) ?_
              obtain ⟨rfl, rfl⟩ := sm_p hM
              exact x_retMz (pc := 144) C rfl rfl hW dM_operand_144
            · replace hM := it_f k1_5 hM
              by_cases k1_6 : (σ.1 10) = (126 : Int32)
              · replace hM := it_t k1_6 hM
                refine lv_lookup (pc := 4) (off := 141) (tgt := 145) hx hb dM_operand_4 (by decide) (by rw [k1_6]; decide) (by decide) ?_
                refine lv_aload_n (pc := 145) hx hb dM_operand_145 rfl (lv_at hl 0 rfl) ?_
                refine lv_iconst (pc := 146) (v := 3) hx hb dM_operand_146 (by decide) ?_
                obtain ⟨r15, σ16, hr15, hM⟩ := cl_some hM
                refine x_callMv (pc := 147) C hW (kM_sign l D dA h  (3 : Int32) _ hr15) gM_sign_508 ⟨rfl, by decide, by decide, by decide +kernel⟩ ⟨rfl, rfl⟩ ⟨by decide, by decide⟩ ⟨by decide, by decide⟩ (As := [.int (3 : Int32)]) (n := 1) rfl hl.1 rfl (Nat.le_of_ble_eq_true rfl) dM_operand_147 (fun H locs hW => ?_)
                refine lv_iconst (pc := 150) (v := 0) hx hb dM_operand_150 (by decide) ?_
                obtain ⟨rfl, rfl⟩ := sm_p hM
                exact x_retMz (pc := 151) C rfl rfl hW dM_operand_151
              · replace hM := it_f k1_6 hM
                refine lv_lookup (pc := 4) (off := 231) (tgt := 235) hx hb dM_operand_4 (by decide) (by rw [lv_osw k1_0 (by decide)]; rw [lv_osw k1_1 (by decide)]; rw [lv_osw k1_2 (by decide)]; rw [lv_osw k1_3 (by decide)]; rw [lv_osw k1_4 (by decide)]; rw [lv_osw k1_5 (by decide)]; rw [lv_osw k1_6 (by decide)]; rfl) (by decide) ?_
                refine lv_aload_n (pc := 235) hx hb dM_operand_235 rfl (lv_at hl 0 rfl) ?_
                refine lv_iconst (pc := 236) (v := 1) hx hb dM_operand_236 (by decide) ?_
                obtain ⟨r17, σ18, hr17, hM⟩ := cl_some hM
                refine x_callMv (pc := 237) C hW (kM_blame l D dA h  (1 : Int32) _ hr17) gM_blame_429 ⟨rfl, by decide, by decide, by decide +kernel⟩ ⟨rfl, rfl⟩ ⟨by decide, by decide⟩ ⟨by decide, by decide⟩ (As := [.int (1 : Int32)]) (n := 1) rfl hl.1 rfl (Nat.le_of_ble_eq_true rfl) dM_operand_237 (fun H locs hW => ?_)
                refine lv_iconst (pc := 240) (v := 0) hx hb dM_operand_240 (by decide) ?_
                obtain ⟨rfl, rfl⟩ := sm_p hM
                exact x_retMz (pc := 241) C rfl rfl hW dM_operand_241
theorem kM_operand (l : Launch) (D : va_G) (dA : Nat → ClassId) (h : Nat → Nat) (N : Nat)  (σ : MS) {r : Int32} {σ' : MS} (hM : M_operand N  σ = some (r, σ')) : KM l D dA yM_operand cM_operand 3 (some .boolean) rm_operand h σ [] (some (.int r)) σ' := x_enterM rfl (Nat.le_of_ble_eq_true rfl) (fun p e s m args below meth c A C hW ls hl => bM_operand_0 N C  σ hM s.heap [] hW ls hl)
def M_rank_86 (t0 : Int32) : Option Int32 :=
  some t0
set_option maxHeartbeats 4000000 in
set_option maxRecDepth 100000 in
theorem bM_rank_86  {r : Int32} (C : CxS RM p s m args meth c cM_rank 1 (some .int)) (t0 : Int32) (hM : M_rank_86  t0 = some r) (ls : Array Slot) (hl : lv_has ls 1 []) : W p l e rm_rank s m args below meth c s.heap [] 0 0 (MQ below (QS (some (.int r))) args s 0 0 (fun _ => False)) (F0 m 86 ls [.int t0]) := by
  have hx := C.1
  have hb := C.2.1
  have hown := C.2.2.2.2.1
  have hT := C.2.2.2.2.2.1
  unfold M_rank_86 at hM
  obtain rfl := sm_i hM
  exact x_retS (pc := 86) C rfl dM_rank_86
def M_rank_18  : Option Int32 :=
  M_rank_86  (6 : Int32)
set_option maxHeartbeats 4000000 in
set_option maxRecDepth 100000 in
theorem bM_rank_18  {r : Int32} (C : CxS RM p s m args meth c cM_rank 1 (some .int))  (hM : M_rank_18   = some r) (ls : Array Slot) (hl : lv_has ls 1 []) : W p l e rm_rank s m args below meth c s.heap [] 0 0 (MQ below (QS (some (.int r))) args s 0 0 (fun _ => False)) (F0 m 18 ls []) := by
  have hx := C.1
  have hb := C.2.1
  have hown := C.2.2.2.2.1
  have hT := C.2.2.2.2.2.1
  unfold M_rank_18 at hM
  refine lv_bipush (pc := 18) (v := 6) hx hb dM_rank_18 (by decide) ?_
  refine lv_goto (pc := 20) (tgt := 86) hx hb dM_rank_20 (by decide) ?_
  exact bM_rank_86  C  _ hM _ (lv_sub hl [] rfl)
def M_rank_35  : Option Int32 :=
  M_rank_86  (5 : Int32)
set_option maxHeartbeats 4000000 in
set_option maxRecDepth 100000 in
theorem bM_rank_35  {r : Int32} (C : CxS RM p s m args meth c cM_rank 1 (some .int))  (hM : M_rank_35   = some r) (ls : Array Slot) (hl : lv_has ls 1 []) : W p l e rm_rank s m args below meth c s.heap [] 0 0 (MQ below (QS (some (.int r))) args s 0 0 (fun _ => False)) (F0 m 35 ls []) := by
  have hx := C.1
  have hb := C.2.1
  have hown := C.2.2.2.2.1
  have hT := C.2.2.2.2.2.1
  unfold M_rank_35 at hM
  refine lv_iconst (pc := 35) (v := 5) hx hb dM_rank_35 (by decide) ?_
  refine lv_goto (pc := 36) (tgt := 86) hx hb dM_rank_36 (by decide) ?_
  exact bM_rank_86  C  _ hM _ (lv_sub hl [] rfl)
def M_rank_51  : Option Int32 :=
  M_rank_86  (4 : Int32)
set_option maxHeartbeats 4000000 in
set_option maxRecDepth 100000 in
theorem bM_rank_51  {r : Int32} (C : CxS RM p s m args meth c cM_rank 1 (some .int))  (hM : M_rank_51   = some r) (ls : Array Slot) (hl : lv_has ls 1 []) : W p l e rm_rank s m args below meth c s.heap [] 0 0 (MQ below (QS (some (.int r))) args s 0 0 (fun _ => False)) (F0 m 51 ls []) := by
  have hx := C.1
  have hb := C.2.1
  have hown := C.2.2.2.2.1
  have hT := C.2.2.2.2.2.1
  unfold M_rank_51 at hM
  refine lv_iconst (pc := 51) (v := 4) hx hb dM_rank_51 (by decide) ?_
  refine lv_goto (pc := 52) (tgt := 86) hx hb dM_rank_52 (by decide) ?_
  exact bM_rank_86  C  _ hM _ (lv_sub hl [] rfl)
def M_rank (x0 : Int32) : Option Int32 :=
  (if x0 = (42 : Int32) then M_rank_18   else (if x0 = (47 : Int32) then M_rank_18   else (if x0 = (37 : Int32) then M_rank_18   else (if x0 = (43 : Int32) then M_rank_35   else (if x0 = (45 : Int32) then M_rank_35   else (if x0 = (6 : Int32) then M_rank_51   else (if x0 = (7 : Int32) then M_rank_51   else (if x0 = (38 : Int32) then M_rank_86  (3 : Int32) else (if x0 = (94 : Int32) then M_rank_86  (2 : Int32) else (if x0 = (124 : Int32) then M_rank_86  (1 : Int32) else M_rank_86  (0 : Int32)))))))))))
set_option maxHeartbeats 4000000 in
set_option maxRecDepth 100000 in
theorem bM_rank_0  {r : Int32} (C : CxS RM p s m args meth c cM_rank 1 (some .int)) (x0 : Int32) (hM : M_rank  x0 = some r) (ls : Array Slot) (hl : lv_has ls 1 [(0, .int x0)]) : W p l e rm_rank s m args below meth c s.heap [] 0 0 (MQ below (QS (some (.int r))) args s 0 0 (fun _ => False)) (F0 m 0 ls []) := by
  have hx := C.1
  have hb := C.2.1
  have hown := C.2.2.2.2.1
  have hT := C.2.2.2.2.2.1
  unfold M_rank at hM
  refine lv_iload_n (pc := 0) hx hb dM_rank_0 rfl (lv_at hl 0 rfl) ?_
  refine lv_bipush (pc := 1) (v := 42) hx hb dM_rank_1 (by decide) ?_
  refine lv_icmp_eq (pc := 3) (tgt := 18) hx hb dM_rank_3 (by decide) (fun hc => ?_) (fun hc => ?_)
  · replace hM := it_t hc hM
    exact bM_rank_18  C   hM _ (lv_sub hl [] rfl)
  · replace hM := it_f hc hM
    refine lv_iload_n (pc := 6) hx hb dM_rank_6 rfl (lv_at hl 0 rfl) ?_
    refine lv_bipush (pc := 7) (v := 47) hx hb dM_rank_7 (by decide) ?_
    refine lv_icmp_eq (pc := 9) (tgt := 18) hx hb dM_rank_9 (by decide) (fun hc => ?_) (fun hc => ?_)
    · replace hM := it_t hc hM
      exact bM_rank_18  C   hM _ (lv_sub hl [] rfl)
    · replace hM := it_f hc hM
      refine lv_iload_n (pc := 12) hx hb dM_rank_12 rfl (lv_at hl 0 rfl) ?_
      refine lv_bipush (pc := 13) (v := 37) hx hb dM_rank_13 (by decide) ?_
      refine lv_icmp_ne (pc := 15) (tgt := 23) hx hb dM_rank_15 (by decide) (fun hc => ?_) (fun hc => ?_)
      · replace hM := it_f hc hM
        refine lv_iload_n (pc := 23) hx hb dM_rank_23 rfl (lv_at hl 0 rfl) ?_
        refine lv_bipush (pc := 24) (v := 43) hx hb dM_rank_24 (by decide) ?_
        refine lv_icmp_eq (pc := 26) (tgt := 35) hx hb dM_rank_26 (by decide) (fun hc => ?_) (fun hc => ?_)
        · replace hM := it_t hc hM
          exact bM_rank_35  C   hM _ (lv_sub hl [] rfl)
        · replace hM := it_f hc hM
          refine lv_iload_n (pc := 29) hx hb dM_rank_29 rfl (lv_at hl 0 rfl) ?_
          refine lv_bipush (pc := 30) (v := 45) hx hb dM_rank_30 (by decide) ?_
          refine lv_icmp_ne (pc := 32) (tgt := 39) hx hb dM_rank_32 (by decide) (fun hc => ?_) (fun hc => ?_)
          · replace hM := it_f hc hM
            refine lv_iload_n (pc := 39) hx hb dM_rank_39 rfl (lv_at hl 0 rfl) ?_
            refine lv_bipush (pc := 40) (v := 6) hx hb dM_rank_40 (by decide) ?_
            refine lv_icmp_eq (pc := 42) (tgt := 51) hx hb dM_rank_42 (by decide) (fun hc => ?_) (fun hc => ?_)
            · replace hM := it_t hc hM
              exact bM_rank_51  C   hM _ (lv_sub hl [] rfl)
            · replace hM := it_f hc hM
              refine lv_iload_n (pc := 45) hx hb dM_rank_45 rfl (lv_at hl 0 rfl) ?_
              refine lv_bipush (pc := 46) (v := 7) hx hb dM_rank_46 (by decide) ?_
              refine lv_icmp_ne (pc := 48) (tgt := 55) hx hb dM_rank_48 (by decide) (fun hc => ?_) (fun hc => ?_)
              · replace hM := it_f hc hM
                refine lv_iload_n (pc := 55) hx hb dM_rank_55 rfl (lv_at hl 0 rfl) ?_
                refine lv_bipush (pc := 56) (v := 38) hx hb dM_rank_56 (by decide) ?_
                refine lv_icmp_ne (pc := 58) (tgt := 65) hx hb dM_rank_58 (by decide) (fun hc => ?_) (fun hc => ?_)
                · replace hM := it_f hc hM
                  refine lv_iload_n (pc := 65) hx hb dM_rank_65 rfl (lv_at hl 0 rfl) ?_
                  refine lv_bipush (pc := 66) (v := 94) hx hb dM_rank_66 (by decide) ?_
                  refine lv_icmp_ne (pc := 68) (tgt := 75) hx hb dM_rank_68 (by decide) (fun hc => ?_) (fun hc => ?_)
                  · replace hM := it_f hc hM
                    refine lv_iload_n (pc := 75) hx hb dM_rank_75 rfl (lv_at hl 0 rfl) ?_
                    refine lv_bipush (pc := 76) (v := 124) hx hb dM_rank_76 (by decide) ?_
                    refine lv_icmp_ne (pc := 78) (tgt := 85) hx hb dM_rank_78 (by decide) (fun hc => ?_) (fun hc => ?_)
                    · replace hM := it_f hc hM
                      refine lv_iconst (pc := 85) (v := 0) hx hb dM_rank_85 (by decide) ?_
                      exact bM_rank_86  C  _ hM _ (lv_sub hl [] rfl)
                    · replace hM := it_t hc hM
                      refine lv_iconst (pc := 81) (v := 1) hx hb dM_rank_81 (by decide) ?_
                      refine lv_goto (pc := 82) (tgt := 86) hx hb dM_rank_82 (by decide) ?_
                      exact bM_rank_86  C  _ hM _ (lv_sub hl [] rfl)
                  · replace hM := it_t hc hM
                    refine lv_iconst (pc := 71) (v := 2) hx hb dM_rank_71 (by decide) ?_
                    refine lv_goto (pc := 72) (tgt := 86) hx hb dM_rank_72 (by decide) ?_
                    exact bM_rank_86  C  _ hM _ (lv_sub hl [] rfl)
                · replace hM := it_t hc hM
                  refine lv_iconst (pc := 61) (v := 3) hx hb dM_rank_61 (by decide) ?_
                  refine lv_goto (pc := 62) (tgt := 86) hx hb dM_rank_62 (by decide) ?_
                  exact bM_rank_86  C  _ hM _ (lv_sub hl [] rfl)
              · replace hM := it_t hc hM
                exact bM_rank_51  C   hM _ (lv_sub hl [] rfl)
          · replace hM := it_t hc hM
            exact bM_rank_35  C   hM _ (lv_sub hl [] rfl)
      · replace hM := it_t hc hM
        exact bM_rank_18  C   hM _ (lv_sub hl [] rfl)
theorem kM_rank (l : Launch) (x0 : Int32) {r : Int32} (hM : M_rank x0 = some r) : KS l yM_rank cM_rank 1 (some .int) rm_rank [.int x0] (some (.int r)) := x_enterS (by decide +kernel) (Nat.le_of_ble_eq_true rfl) (fun p e s m args below meth c C ls hl => bM_rank_0 C x0 hM ls hl)
def M_expression_338 (N : Nat) (x4 : Int32) (σ : MS) : Option (Int32 × MS) :=
  some (x4, σ)
set_option maxHeartbeats 4000000 in
set_option maxRecDepth 100000 in
theorem bM_expression_338 (N : Nat)  {r : Int32} {σ' : MS} (C : CxM p s m args meth c cM_expression 6 (some .int) D dA A) (x4 : Int32) (σ : MS) (hM : M_expression_338 N  x4 σ = some (r, σ')) (H : Heap) (locs : List Loc) (hW : WdM D dA h A s σ H locs) (ls : Array Slot) (hl : lv_has ls 6 [(4, .int x4)]) : W p l e rm_expression s m args below meth c H locs 0 0 (MQ below (QM D dA h A σ' (some (.int r))) args s 0 0 A) (F0 m 338 ls []) := by
  have hx := C.1.1
  have hb := C.1.2.1
  have hown := C.1.2.2.2.2.1
  have hT := C.1.2.2.2.2.2.1
  unfold M_expression_338 at hM
  refine lv_iload (pc := 338) hx hb dM_expression_338 (lv_at hl 0 rfl) ?_
  obtain ⟨rfl, rfl⟩ := sm_p hM
  exact x_retMi (pc := 340) C rfl hW dM_expression_340
def M_expression_335 (N : Nat) (x4 : Int32) (t1 : Int32) (σ : MS) : Option (Int32 × MS) :=
  cl (M_blame  t1 σ) (fun r1 σ2 => M_expression_338 N  x4 σ2)
set_option maxHeartbeats 4000000 in
set_option maxRecDepth 100000 in
theorem bM_expression_335 (N : Nat)  {r : Int32} {σ' : MS} (C : CxM p s m args meth c cM_expression 6 (some .int) D dA A) (x4 : Int32) (t1 : Int32) (σ : MS) (hM : M_expression_335 N  x4 t1 σ = some (r, σ')) (H : Heap) (locs : List Loc) (hW : WdM D dA h A s σ H locs) (ls : Array Slot) (hl : lv_has ls 6 [(4, .int x4)]) : W p l e rm_expression s m args below meth c H locs 0 0 (MQ below (QM D dA h A σ' (some (.int r))) args s 0 0 A) (F0 m 335 ls [.int t1, .ref (h 0)]) := by
  have hx := C.1.1
  have hb := C.1.2.1
  have hown := C.1.2.2.2.2.1
  have hT := C.1.2.2.2.2.2.1
  unfold M_expression_335 at hM
  obtain ⟨r1, σ2, hr1, hM⟩ := cl_some hM
  refine x_callMv (pc := 335) C hW (kM_blame l D dA h  t1 _ hr1) gM_blame_429 ⟨rfl, by decide, by decide, by decide +kernel⟩ ⟨rfl, rfl⟩ ⟨by decide, by decide⟩ ⟨by decide, by decide⟩ (As := [.int t1]) (n := 1) rfl hl.1 rfl (Nat.le_of_ble_eq_true rfl) dM_expression_335 (fun H locs hW => ?_)
  exact bM_expression_338 N  C  _ _ hM _ _ hW _ (lv_sub hl [0] rfl)
def M_expression_320 (N : Nat) (x4 : Int32) (σ : MS) : Option (Int32 × MS) :=
  (if (σ.1 24) = 0 then M_expression_335 N  x4 (9 : Int32) σ else M_expression_335 N  x4 (8 : Int32) σ)
set_option maxHeartbeats 4000000 in
set_option maxRecDepth 100000 in
theorem bM_expression_320 (N : Nat)  {r : Int32} {σ' : MS} (C : CxM p s m args meth c cM_expression 6 (some .int) D dA A) (x4 : Int32) (σ : MS) (hM : M_expression_320 N  x4 σ = some (r, σ')) (H : Heap) (locs : List Loc) (hW : WdM D dA h A s σ H locs) (ls : Array Slot) (hl : lv_has ls 6 [(0, .ref (h 0)), (4, .int x4)]) : W p l e rm_expression s m args below meth c H locs 0 0 (MQ below (QM D dA h A σ' (some (.int r))) args s 0 0 A) (F0 m 320 ls []) := by
  have hx := C.1.1
  have hb := C.1.2.1
  have hown := C.1.2.2.2.2.1
  have hT := C.1.2.2.2.2.2.1
  unfold M_expression_320 at hM
  refine lv_aload_n (pc := 320) hx hb dM_expression_320 rfl (lv_at hl 0 rfl) ?_
  refine lv_aload_n (pc := 321) hx hb dM_expression_321 rfl (lv_at hl 0 rfl) ?_
  refine gM (pc := 322) C hW 34 (by decide) q_1691 rfl rfl dM_expression_322 ?_
  refine lv_if_eq (pc := 325) (tgt := 333) hx hb dM_expression_325 (by decide) (fun hc => ?_) (fun hc => ?_)
  · replace hM := it_t hc hM
    refine lv_bipush (pc := 333) (v := 9) hx hb dM_expression_333 (by decide) ?_
    exact bM_expression_335 N  C  _ _ _ hM _ _ hW _ (lv_sub hl [1] rfl)
  · replace hM := it_f hc hM
    refine lv_bipush (pc := 328) (v := 8) hx hb dM_expression_328 (by decide) ?_
    refine lv_goto (pc := 330) (tgt := 335) hx hb dM_expression_330 (by decide) ?_
    exact bM_expression_335 N  C  _ _ _ hM _ _ hW _ (lv_sub hl [1] rfl)
def M_expression_296 (N : Nat) (t0 : Int32) (σ : MS) : Option (Int32 × MS) :=
  (if (σ.1 17) = (2 : Int32) then (if (σ.1 24) = 0 then (if (σ.1 25) = 0 then M_expression_338 N  t0 σ else M_expression_320 N  t0 σ) else M_expression_320 N  t0 σ) else M_expression_338 N  t0 σ)
set_option maxHeartbeats 4000000 in
set_option maxRecDepth 100000 in
theorem bM_expression_296 (N : Nat)  {r : Int32} {σ' : MS} (C : CxM p s m args meth c cM_expression 6 (some .int) D dA A) (t0 : Int32) (σ : MS) (hM : M_expression_296 N  t0 σ = some (r, σ')) (H : Heap) (locs : List Loc) (hW : WdM D dA h A s σ H locs) (ls : Array Slot) (hl : lv_has ls 6 [(0, .ref (h 0))]) : W p l e rm_expression s m args below meth c H locs 0 0 (MQ below (QM D dA h A σ' (some (.int r))) args s 0 0 A) (F0 m 296 ls [.int t0]) := by
  have hx := C.1.1
  have hb := C.1.2.1
  have hown := C.1.2.2.2.2.1
  have hT := C.1.2.2.2.2.2.1
  unfold M_expression_296 at hM
  refine lv_istore (pc := 296) (lv' := [(4, .int t0), (0, .ref (h 0))]) hx hb dM_expression_296 hl (by decide) rfl (fun ls hl => ?_)
  refine lv_aload_n (pc := 298) hx hb dM_expression_298 rfl (lv_at hl 1 rfl) ?_
  refine gM (pc := 299) C hW 27 (by decide) q_1684 rfl rfl dM_expression_299 ?_
  refine lv_iconst (pc := 302) (v := 2) hx hb dM_expression_302 (by decide) ?_
  refine lv_icmp_ne (pc := 303) (tgt := 338) hx hb dM_expression_303 (by decide) (fun hc => ?_) (fun hc => ?_)
  · replace hM := it_f hc hM
    exact bM_expression_338 N  C  _ _ hM _ _ hW _ (lv_sub hl [0] rfl)
  · replace hM := it_t hc hM
    refine lv_aload_n (pc := 306) hx hb dM_expression_306 rfl (lv_at hl 1 rfl) ?_
    refine gM (pc := 307) C hW 34 (by decide) q_1691 rfl rfl dM_expression_307 ?_
    refine lv_if_ne (pc := 310) (tgt := 320) hx hb dM_expression_310 (by decide) (fun hc => ?_) (fun hc => ?_)
    · replace hM := it_f hc hM
      exact bM_expression_320 N  C  _ _ hM _ _ hW _ (lv_sub hl [1, 0] rfl)
    · replace hM := it_t hc hM
      refine lv_aload_n (pc := 313) hx hb dM_expression_313 rfl (lv_at hl 1 rfl) ?_
      refine gM (pc := 314) C hW 35 (by decide) q_1692 rfl rfl dM_expression_314 ?_
      refine lv_if_eq (pc := 317) (tgt := 338) hx hb dM_expression_317 (by decide) (fun hc => ?_) (fun hc => ?_)
      · replace hM := it_t hc hM
        exact bM_expression_338 N  C  _ _ hM _ _ hW _ (lv_sub hl [0] rfl)
      · replace hM := it_f hc hM
        exact bM_expression_320 N  C  _ _ hM _ _ hW _ (lv_sub hl [1, 0] rfl)
def M_expression_276 (N : Nat)  (σ : MS) : Option (Int32 × MS) :=
  (if (σ.1 14) = 0 then gd (inB (σ.1 28) 4100) (M_expression_296 N  (σ.2 7 (σ.1 28).toNatClampNeg) σ) else M_expression_296 N  (0 : Int32) σ)
set_option maxHeartbeats 4000000 in
set_option maxRecDepth 100000 in
theorem bM_expression_276 (N : Nat)  {r : Int32} {σ' : MS} (C : CxM p s m args meth c cM_expression 6 (some .int) D dA A)  (σ : MS) (hM : M_expression_276 N   σ = some (r, σ')) (H : Heap) (locs : List Loc) (hW : WdM D dA h A s σ H locs) (ls : Array Slot) (hl : lv_has ls 6 [(0, .ref (h 0))]) : W p l e rm_expression s m args below meth c H locs 0 0 (MQ below (QM D dA h A σ' (some (.int r))) args s 0 0 A) (F0 m 276 ls []) := by
  have hx := C.1.1
  have hb := C.1.2.1
  have hown := C.1.2.2.2.2.1
  have hT := C.1.2.2.2.2.2.1
  unfold M_expression_276 at hM
  refine lv_aload_n (pc := 276) hx hb dM_expression_276 rfl (lv_at hl 0 rfl) ?_
  refine gM (pc := 277) C hW 24 (by decide) q_1681 rfl rfl dM_expression_277 ?_
  refine lv_if_ne (pc := 280) (tgt := 295) hx hb dM_expression_280 (by decide) (fun hc => ?_) (fun hc => ?_)
  · replace hM := it_f hc hM
    refine lv_iconst (pc := 295) (v := 0) hx hb dM_expression_295 (by decide) ?_
    exact bM_expression_296 N  C  _ _ hM _ _ hW _ (lv_sub hl [0] rfl)
  · replace hM := it_t hc hM
    refine lv_aload_n (pc := 283) hx hb dM_expression_283 rfl (lv_at hl 0 rfl) ?_
    refine gM (pc := 284) C hW 37 (by decide) q_1694 rfl rfl dM_expression_284 ?_
    refine lv_aload_n (pc := 287) hx hb dM_expression_287 rfl (lv_at hl 0 rfl) ?_
    refine gM (pc := 288) C hW 39 (by decide) q_1696 rfl rfl dM_expression_288 ?_
    obtain ⟨hg1, hM⟩ := gd_some hM
    refine x_ldI (pc := 291) C hW 11 rfl hg1 dM_expression_291 ?_
    refine lv_goto (pc := 292) (tgt := 296) hx hb dM_expression_292 (by decide) ?_
    exact bM_expression_296 N  C  _ _ hM _ _ hW _ (lv_sub hl [0] rfl)
def M_expression_255 (N : Nat)  : Nat → MS → Option (Int32 × MS)
  | 0 => fun _ => none
  | n + 1 => fun σ => (if (σ.1 27) ≤ 0 then M_expression_276 N  σ else (if (σ.1 14) = 0 then cl (M_join  σ) (fun r1 σ2 => (M_expression_255 N  n) σ2) else M_expression_276 N  σ))
set_option maxHeartbeats 4000000 in
set_option maxRecDepth 100000 in
theorem bM_expression_255 (N : Nat)  {r : Int32} {σ' : MS} (C : CxM p s m args meth c cM_expression 6 (some .int) D dA A) : ∀ (n : Nat) (σ : MS), M_expression_255 N  n  σ = some (r, σ') → ∀ (H : Heap) (locs : List Loc), WdM D dA h A s σ H locs → ∀ (ls : Array Slot), lv_has ls 6 [(0, .ref (h 0))] → W p l e rm_expression s m args below meth c H locs 0 0 (MQ below (QM D dA h A σ' (some (.int r))) args s 0 0 A) (F0 m 255 ls []) := by
  have hx := C.1.1
  have hb := C.1.2.1
  have hown := C.1.2.2.2.2.1
  have hT := C.1.2.2.2.2.2.1
  intro n
  induction n with
  | zero => intro σ hM; cases hM
  | succ n hrec255 =>
    intro σ hM H locs hW ls hl
    rw [M_expression_255] at hM
    refine lv_aload_n (pc := 255) hx hb dM_expression_255 rfl (lv_at hl 0 rfl) ?_
    refine gM (pc := 256) C hW 38 (by decide) q_1695 rfl rfl dM_expression_256 ?_
    refine lv_if_le (pc := 259) (tgt := 276) hx hb dM_expression_259 (by decide) (fun hc => ?_) (fun hc => ?_)
    · replace hM := it_t hc hM
      exact bM_expression_276 N  C   _ hM _ _ hW _ (lv_sub hl [0] rfl)
    · replace hM := it_f hc hM
      refine lv_aload_n (pc := 262) hx hb dM_expression_262 rfl (lv_at hl 0 rfl) ?_
      refine gM (pc := 263) C hW 24 (by decide) q_1681 rfl rfl dM_expression_263 ?_
      refine lv_if_ne (pc := 266) (tgt := 276) hx hb dM_expression_266 (by decide) (fun hc => ?_) (fun hc => ?_)
      · replace hM := it_f hc hM
        exact bM_expression_276 N  C   _ hM _ _ hW _ (lv_sub hl [0] rfl)
      · replace hM := it_t hc hM
        refine lv_aload_n (pc := 269) hx hb dM_expression_269 rfl (lv_at hl 0 rfl) ?_
        obtain ⟨r1, σ2, hr1, hM⟩ := cl_some hM
        refine x_callMv (pc := 270) C hW (kM_join l D dA h  _ hr1) gM_join_528 ⟨rfl, by decide, by decide, by decide +kernel⟩ ⟨rfl, rfl⟩ ⟨by decide, by decide⟩ ⟨by decide, by decide⟩ (As := []) (n := 0) rfl hl.1 rfl (Nat.le_of_ble_eq_true rfl) dM_expression_270 (fun H locs hW => ?_)
        refine lv_goto (pc := 273) (tgt := 255) hx hb dM_expression_273 (by decide) ?_
        exact hrec255  _ hM _ _ hW _ (lv_sub hl [0] rfl)
def M_expression_252 (N : Nat) (rec33 : Int32 → Int32 → Int32 → MS → Option (Int32 × MS)) (x1 : Int32) (x2 : Int32) (x3 : Int32) (σ : MS) : Option (Int32 × MS) :=
  rec33 x1 x2 x3 σ
set_option maxHeartbeats 4000000 in
set_option maxRecDepth 100000 in
theorem bM_expression_252 (N : Nat) (rec33 : Int32 → Int32 → Int32 → MS → Option (Int32 × MS)) {r : Int32} {σ' : MS} (C : CxM p s m args meth c cM_expression 6 (some .int) D dA A) (hrec33 : ∀ (x1 : Int32) (x2 : Int32) (x3 : Int32) (σ : MS), rec33 x1 x2 x3 σ = some (r, σ') → ∀ (H : Heap) (locs : List Loc), WdM D dA h A s σ H locs → ∀ (ls : Array Slot), lv_has ls 6 [(0, .ref (h 0)), (1, .int x1), (2, .int x2), (3, .int x3)] → W p l e rm_expression s m args below meth c H locs 0 0 (MQ below (QM D dA h A σ' (some (.int r))) args s 0 0 A) (F0 m 33 ls [])) (x1 : Int32) (x2 : Int32) (x3 : Int32) (σ : MS) (hM : M_expression_252 N rec33 x1 x2 x3 σ = some (r, σ')) (H : Heap) (locs : List Loc) (hW : WdM D dA h A s σ H locs) (ls : Array Slot) (hl : lv_has ls 6 [(0, .ref (h 0)), (1, .int x1), (2, .int x2), (3, .int x3)]) : W p l e rm_expression s m args below meth c H locs 0 0 (MQ below (QM D dA h A σ' (some (.int r))) args s 0 0 A) (F0 m 252 ls []) := by
  have hx := C.1.1
  have hb := C.1.2.1
  have hown := C.1.2.2.2.2.1
  have hT := C.1.2.2.2.2.2.1
  unfold M_expression_252 at hM
  refine lv_goto (pc := 252) (tgt := 33) hx hb dM_expression_252 (by decide) ?_
  exact hrec33 _ _ _ _ hM _ _ hW _ (lv_sub hl [0, 1, 2, 3] rfl)
def M_expression_246 (N : Nat) (rec33 : Int32 → Int32 → Int32 → MS → Option (Int32 × MS)) (x1 : Int32) (x2 : Int32) (x3 : Int32) (x4 : Int32) (σ : MS) : Option (Int32 × MS) :=
  bnd (sF σ 9 x4) (fun σ1 => M_expression_252 N rec33 x1 x2 x3 σ1)
set_option maxHeartbeats 4000000 in
set_option maxRecDepth 100000 in
theorem bM_expression_246 (N : Nat) (rec33 : Int32 → Int32 → Int32 → MS → Option (Int32 × MS)) {r : Int32} {σ' : MS} (C : CxM p s m args meth c cM_expression 6 (some .int) D dA A) (hrec33 : ∀ (x1 : Int32) (x2 : Int32) (x3 : Int32) (σ : MS), rec33 x1 x2 x3 σ = some (r, σ') → ∀ (H : Heap) (locs : List Loc), WdM D dA h A s σ H locs → ∀ (ls : Array Slot), lv_has ls 6 [(0, .ref (h 0)), (1, .int x1), (2, .int x2), (3, .int x3)] → W p l e rm_expression s m args below meth c H locs 0 0 (MQ below (QM D dA h A σ' (some (.int r))) args s 0 0 A) (F0 m 33 ls [])) (x1 : Int32) (x2 : Int32) (x3 : Int32) (x4 : Int32) (σ : MS) (hM : M_expression_246 N rec33 x1 x2 x3 x4 σ = some (r, σ')) (H : Heap) (locs : List Loc) (hW : WdM D dA h A s σ H locs) (ls : Array Slot) (hl : lv_has ls 6 [(0, .ref (h 0)), (1, .int x1), (2, .int x2), (3, .int x3), (4, .int x4)]) : W p l e rm_expression s m args below meth c H locs 0 0 (MQ below (QM D dA h A σ' (some (.int r))) args s 0 0 A) (F0 m 246 ls []) := by
  have hx := C.1.1
  have hb := C.1.2.1
  have hown := C.1.2.2.2.2.1
  have hT := C.1.2.2.2.2.2.1
  unfold M_expression_246 at hM
  refine lv_aload_n (pc := 246) hx hb dM_expression_246 rfl (lv_at hl 0 rfl) ?_
  refine lv_iload (pc := 247) hx hb dM_expression_247 (lv_at hl 4 rfl) ?_
  refine pM (pc := 249) (ty := .int) C hW 19 9 (by decide) q_1676 rfl rfl (by decide +kernel) rfl rfl (st_at dA h _ _) dM_expression_249 (fun H locs hW => ?_)
  obtain ⟨σ1, eσ1, hM⟩ := bnd_some hM
  rw [← eσ1] at hW
  exact bM_expression_252 N rec33 C hrec33 _ _ _ _ hM _ _ hW _ (lv_sub hl [0, 1, 2, 3] rfl)
def M_expression_235 (N : Nat) (rec33 : Int32 → Int32 → Int32 → MS → Option (Int32 × MS)) (x1 : Int32) (x2 : Int32) (x4 : Int32) (σ : MS) : Option (Int32 × MS) :=
  (if x1 ≤ 0 then M_expression_246 N rec33 x1 x2 (0 : Int32) x4 σ else cl (M_blame  (1 : Int32) σ) (fun r1 σ2 => M_expression_246 N rec33 x1 x2 (0 : Int32) x4 σ2))
set_option maxHeartbeats 4000000 in
set_option maxRecDepth 100000 in
theorem bM_expression_235 (N : Nat) (rec33 : Int32 → Int32 → Int32 → MS → Option (Int32 × MS)) {r : Int32} {σ' : MS} (C : CxM p s m args meth c cM_expression 6 (some .int) D dA A) (hrec33 : ∀ (x1 : Int32) (x2 : Int32) (x3 : Int32) (σ : MS), rec33 x1 x2 x3 σ = some (r, σ') → ∀ (H : Heap) (locs : List Loc), WdM D dA h A s σ H locs → ∀ (ls : Array Slot), lv_has ls 6 [(0, .ref (h 0)), (1, .int x1), (2, .int x2), (3, .int x3)] → W p l e rm_expression s m args below meth c H locs 0 0 (MQ below (QM D dA h A σ' (some (.int r))) args s 0 0 A) (F0 m 33 ls [])) (x1 : Int32) (x2 : Int32) (x4 : Int32) (σ : MS) (hM : M_expression_235 N rec33 x1 x2 x4 σ = some (r, σ')) (H : Heap) (locs : List Loc) (hW : WdM D dA h A s σ H locs) (ls : Array Slot) (hl : lv_has ls 6 [(0, .ref (h 0)), (1, .int x1), (2, .int x2), (4, .int x4)]) : W p l e rm_expression s m args below meth c H locs 0 0 (MQ below (QM D dA h A σ' (some (.int r))) args s 0 0 A) (F0 m 235 ls []) := by
  have hx := C.1.1
  have hb := C.1.2.1
  have hown := C.1.2.2.2.2.1
  have hT := C.1.2.2.2.2.2.1
  unfold M_expression_235 at hM
  refine lv_iconst (pc := 235) (v := 0) hx hb dM_expression_235 (by decide) ?_
  refine lv_istore_n (pc := 236) (lv' := [(3, .int (0 : Int32)), (0, .ref (h 0)), (1, .int x1), (2, .int x2), (4, .int x4)]) hx hb dM_expression_236 rfl hl (by decide) rfl (fun ls hl => ?_)
  refine lv_iload_n (pc := 237) hx hb dM_expression_237 rfl (lv_at hl 2 rfl) ?_
  refine lv_if_le (pc := 238) (tgt := 246) hx hb dM_expression_238 (by decide) (fun hc => ?_) (fun hc => ?_)
  · replace hM := it_t hc hM
    exact bM_expression_246 N rec33 C hrec33 _ _ _ _ _ hM _ _ hW _ (lv_sub hl [1, 2, 3, 0, 4] rfl)
  · replace hM := it_f hc hM
    refine lv_aload_n (pc := 241) hx hb dM_expression_241 rfl (lv_at hl 1 rfl) ?_
    refine lv_iconst (pc := 242) (v := 1) hx hb dM_expression_242 (by decide) ?_
    obtain ⟨r1, σ2, hr1, hM⟩ := cl_some hM
    refine x_callMv (pc := 243) C hW (kM_blame l D dA h  (1 : Int32) _ hr1) gM_blame_429 ⟨rfl, by decide, by decide, by decide +kernel⟩ ⟨rfl, rfl⟩ ⟨by decide, by decide⟩ ⟨by decide, by decide⟩ (As := [.int (1 : Int32)]) (n := 1) rfl hl.1 rfl (Nat.le_of_ble_eq_true rfl) dM_expression_243 (fun H locs hW => ?_)
    exact bM_expression_246 N rec33 C hrec33 _ _ _ _ _ hM _ _ hW _ (lv_sub hl [1, 2, 3, 0, 4] rfl)
def M_expression_193 (N : Nat) (rec33 : Int32 → Int32 → Int32 → MS → Option (Int32 × MS)) : Nat → Int32 → Int32 → Int32 → MS → Option (Int32 × MS)
  | 0 => fun _ _ _ _ => none
  | n + 1 => fun x1 x2 x3 σ => gd (inB ((σ.1 27) - (1 : Int32)) 4100) ((if (σ.2 7 ((σ.1 27) - (1 : Int32)).toNatClampNeg) = (1 : Int32) then bnd (sF σ 27 ((σ.1 27) - (1 : Int32))) (fun σ2 => cl (M_bind N σ2) (fun r3 σ4 => M_expression_252 N rec33 (x1 + (-1 : Int32)) x2 x3 σ4)) else cl (M_join  σ) (fun r5 σ6 => (M_expression_193 N rec33 n) x1 x2 x3 σ6)))
set_option maxHeartbeats 4000000 in
set_option maxRecDepth 100000 in
theorem bM_expression_193 (N : Nat) (rec33 : Int32 → Int32 → Int32 → MS → Option (Int32 × MS)) {r : Int32} {σ' : MS} (C : CxM p s m args meth c cM_expression 6 (some .int) D dA A) (hrec33 : ∀ (x1 : Int32) (x2 : Int32) (x3 : Int32) (σ : MS), rec33 x1 x2 x3 σ = some (r, σ') → ∀ (H : Heap) (locs : List Loc), WdM D dA h A s σ H locs → ∀ (ls : Array Slot), lv_has ls 6 [(0, .ref (h 0)), (1, .int x1), (2, .int x2), (3, .int x3)] → W p l e rm_expression s m args below meth c H locs 0 0 (MQ below (QM D dA h A σ' (some (.int r))) args s 0 0 A) (F0 m 33 ls [])) : ∀ (n : Nat) (x1 : Int32) (x2 : Int32) (x3 : Int32) (σ : MS), M_expression_193 N rec33 n x1 x2 x3 σ = some (r, σ') → ∀ (H : Heap) (locs : List Loc), WdM D dA h A s σ H locs → ∀ (ls : Array Slot), lv_has ls 6 [(0, .ref (h 0)), (1, .int x1), (2, .int x2), (3, .int x3)] → W p l e rm_expression s m args below meth c H locs 0 0 (MQ below (QM D dA h A σ' (some (.int r))) args s 0 0 A) (F0 m 193 ls []) := by
  have hx := C.1.1
  have hb := C.1.2.1
  have hown := C.1.2.2.2.2.1
  have hT := C.1.2.2.2.2.2.1
  intro n
  induction n with
  | zero => intro x1 x2 x3 σ hM; cases hM
  | succ n hrec193 =>
    intro x1 x2 x3 σ hM H locs hW ls hl
    rw [M_expression_193] at hM
    refine lv_aload_n (pc := 193) hx hb dM_expression_193 rfl (lv_at hl 0 rfl) ?_
    refine gM (pc := 194) C hW 37 (by decide) q_1694 rfl rfl dM_expression_194 ?_
    refine lv_aload_n (pc := 197) hx hb dM_expression_197 rfl (lv_at hl 0 rfl) ?_
    refine gM (pc := 198) C hW 38 (by decide) q_1695 rfl rfl dM_expression_198 ?_
    refine lv_iconst (pc := 201) (v := 1) hx hb dM_expression_201 (by decide) ?_
    refine lv_isub (pc := 202) hx hb dM_expression_202 ?_
    obtain ⟨hg1, hM⟩ := gd_some hM
    refine x_ldI (pc := 203) C hW 11 rfl hg1 dM_expression_203 ?_
    refine lv_iconst (pc := 204) (v := 1) hx hb dM_expression_204 (by decide) ?_
    refine lv_icmp_eq (pc := 205) (tgt := 215) hx hb dM_expression_205 (by decide) (fun hc => ?_) (fun hc => ?_)
    · replace hM := it_t hc hM
      refine lv_aload_n (pc := 215) hx hb dM_expression_215 rfl (lv_at hl 0 rfl) ?_
      refine lv_dup (pc := 216) hx hb dM_expression_216 rfl ?_
      refine gM (pc := 217) C hW 38 (by decide) q_1695 rfl rfl dM_expression_217 ?_
      refine lv_iconst (pc := 220) (v := 1) hx hb dM_expression_220 (by decide) ?_
      refine lv_isub (pc := 221) hx hb dM_expression_221 ?_
      refine pM (pc := 222) (ty := .int) C hW 38 27 (by decide) q_1695 rfl rfl (by decide +kernel) rfl rfl (st_signs dA h _ _) dM_expression_222 (fun H locs hW => ?_)
      obtain ⟨σ2, eσ2, hM⟩ := bnd_some hM
      rw [← eσ2] at hW
      refine lv_iinc (pc := 225) (v := x1 + (-1 : Int32)) (lv' := [(1, .int (x1 + (-1 : Int32))), (0, .ref (h 0)), (2, .int x2), (3, .int x3)]) hx hb dM_expression_225 hl (k := 1) rfl rfl (by decide) rfl (fun ls hl => ?_)
      refine lv_aload_n (pc := 228) hx hb dM_expression_228 rfl (lv_at hl 1 rfl) ?_
      obtain ⟨r3, σ4, hr3, hM⟩ := cl_some hM
      refine x_callMv (pc := 229) C hW (kM_bind l D dA h N _ hr3) gM_bind_518 ⟨rfl, by decide, by decide, by decide +kernel⟩ ⟨rfl, rfl⟩ ⟨by decide, by decide⟩ ⟨by decide, by decide⟩ (As := []) (n := 0) rfl hl.1 rfl (Nat.le_of_ble_eq_true rfl) dM_expression_229 (fun H locs hW => ?_)
      refine lv_goto (pc := 232) (tgt := 252) hx hb dM_expression_232 (by decide) ?_
      exact bM_expression_252 N rec33 C hrec33 _ _ _ _ hM _ _ hW _ (lv_sub hl [1, 0, 2, 3] rfl)
    · replace hM := it_f hc hM
      refine lv_aload_n (pc := 208) hx hb dM_expression_208 rfl (lv_at hl 0 rfl) ?_
      obtain ⟨r5, σ6, hr5, hM⟩ := cl_some hM
      refine x_callMv (pc := 209) C hW (kM_join l D dA h  _ hr5) gM_join_528 ⟨rfl, by decide, by decide, by decide +kernel⟩ ⟨rfl, rfl⟩ ⟨by decide, by decide⟩ ⟨by decide, by decide⟩ (As := []) (n := 0) rfl hl.1 rfl (Nat.le_of_ble_eq_true rfl) dM_expression_209 (fun H locs hW => ?_)
      refine lv_goto (pc := 212) (tgt := 193) hx hb dM_expression_212 (by decide) ?_
      exact hrec193 _ _ _ _ hM _ _ hW _ (lv_sub hl [0, 1, 2, 3] rfl)
def M_expression_180 (N : Nat) (rec33 : Int32 → Int32 → Int32 → MS → Option (Int32 × MS)) (x1 : Int32) (x2 : Int32) (x3 : Int32) (x4 : Int32) (σ : MS) : Option (Int32 × MS) :=
  (if (σ.1 10) = (41 : Int32) then (if x1 ≤ 0 then M_expression_235 N rec33 x1 x2 x4 σ else M_expression_193 N rec33 N x1 x2 x3 σ) else M_expression_235 N rec33 x1 x2 x4 σ)
set_option maxHeartbeats 4000000 in
set_option maxRecDepth 100000 in
theorem bM_expression_180 (N : Nat) (rec33 : Int32 → Int32 → Int32 → MS → Option (Int32 × MS)) {r : Int32} {σ' : MS} (C : CxM p s m args meth c cM_expression 6 (some .int) D dA A) (hrec33 : ∀ (x1 : Int32) (x2 : Int32) (x3 : Int32) (σ : MS), rec33 x1 x2 x3 σ = some (r, σ') → ∀ (H : Heap) (locs : List Loc), WdM D dA h A s σ H locs → ∀ (ls : Array Slot), lv_has ls 6 [(0, .ref (h 0)), (1, .int x1), (2, .int x2), (3, .int x3)] → W p l e rm_expression s m args below meth c H locs 0 0 (MQ below (QM D dA h A σ' (some (.int r))) args s 0 0 A) (F0 m 33 ls [])) (x1 : Int32) (x2 : Int32) (x3 : Int32) (x4 : Int32) (σ : MS) (hM : M_expression_180 N rec33 x1 x2 x3 x4 σ = some (r, σ')) (H : Heap) (locs : List Loc) (hW : WdM D dA h A s σ H locs) (ls : Array Slot) (hl : lv_has ls 6 [(0, .ref (h 0)), (1, .int x1), (2, .int x2), (3, .int x3), (4, .int x4)]) : W p l e rm_expression s m args below meth c H locs 0 0 (MQ below (QM D dA h A σ' (some (.int r))) args s 0 0 A) (F0 m 180 ls []) := by
  have hx := C.1.1
  have hb := C.1.2.1
  have hown := C.1.2.2.2.2.1
  have hT := C.1.2.2.2.2.2.1
  unfold M_expression_180 at hM
  refine lv_aload_n (pc := 180) hx hb dM_expression_180 rfl (lv_at hl 0 rfl) ?_
  refine gM (pc := 181) C hW 20 (by decide) q_1677 rfl rfl dM_expression_181 ?_
  refine lv_bipush (pc := 184) (v := 41) hx hb dM_expression_184 (by decide) ?_
  refine lv_icmp_ne (pc := 186) (tgt := 235) hx hb dM_expression_186 (by decide) (fun hc => ?_) (fun hc => ?_)
  · replace hM := it_f hc hM
    exact bM_expression_235 N rec33 C hrec33 _ _ _ _ hM _ _ hW _ (lv_sub hl [0, 1, 2, 4] rfl)
  · replace hM := it_t hc hM
    refine lv_iload_n (pc := 189) hx hb dM_expression_189 rfl (lv_at hl 1 rfl) ?_
    refine lv_if_le (pc := 190) (tgt := 235) hx hb dM_expression_190 (by decide) (fun hc => ?_) (fun hc => ?_)
    · replace hM := it_t hc hM
      exact bM_expression_235 N rec33 C hrec33 _ _ _ _ hM _ _ hW _ (lv_sub hl [0, 1, 2, 4] rfl)
    · replace hM := it_f hc hM
      exact bM_expression_193 N rec33 C hrec33 N _ _ _ _ hM _ _ hW _ (lv_sub hl [0, 1, 2, 3] rfl)
def M_expression_167 (N : Nat) (rec33 : Int32 → Int32 → Int32 → MS → Option (Int32 × MS)) (x1 : Int32) (x3 : Int32) (σ : MS) : Option (Int32 × MS) :=
  cl (M_sign  (σ.1 10) σ) (fun r1 σ2 => M_expression_252 N rec33 x1 (1 : Int32) x3 σ2)
set_option maxHeartbeats 4000000 in
set_option maxRecDepth 100000 in
theorem bM_expression_167 (N : Nat) (rec33 : Int32 → Int32 → Int32 → MS → Option (Int32 × MS)) {r : Int32} {σ' : MS} (C : CxM p s m args meth c cM_expression 6 (some .int) D dA A) (hrec33 : ∀ (x1 : Int32) (x2 : Int32) (x3 : Int32) (σ : MS), rec33 x1 x2 x3 σ = some (r, σ') → ∀ (H : Heap) (locs : List Loc), WdM D dA h A s σ H locs → ∀ (ls : Array Slot), lv_has ls 6 [(0, .ref (h 0)), (1, .int x1), (2, .int x2), (3, .int x3)] → W p l e rm_expression s m args below meth c H locs 0 0 (MQ below (QM D dA h A σ' (some (.int r))) args s 0 0 A) (F0 m 33 ls [])) (x1 : Int32) (x3 : Int32) (σ : MS) (hM : M_expression_167 N rec33 x1 x3 σ = some (r, σ')) (H : Heap) (locs : List Loc) (hW : WdM D dA h A s σ H locs) (ls : Array Slot) (hl : lv_has ls 6 [(0, .ref (h 0)), (1, .int x1), (3, .int x3)]) : W p l e rm_expression s m args below meth c H locs 0 0 (MQ below (QM D dA h A σ' (some (.int r))) args s 0 0 A) (F0 m 167 ls []) := by
  have hx := C.1.1
  have hb := C.1.2.1
  have hown := C.1.2.2.2.2.1
  have hT := C.1.2.2.2.2.2.1
  unfold M_expression_167 at hM
  refine lv_aload_n (pc := 167) hx hb dM_expression_167 rfl (lv_at hl 0 rfl) ?_
  refine lv_aload_n (pc := 168) hx hb dM_expression_168 rfl (lv_at hl 0 rfl) ?_
  refine gM (pc := 169) C hW 20 (by decide) q_1677 rfl rfl dM_expression_169 ?_
  obtain ⟨r1, σ2, hr1, hM⟩ := cl_some hM
  refine x_callMv (pc := 172) C hW (kM_sign l D dA h  (σ.1 10) _ hr1) gM_sign_508 ⟨rfl, by decide, by decide, by decide +kernel⟩ ⟨rfl, rfl⟩ ⟨by decide, by decide⟩ ⟨by decide, by decide⟩ (As := [.int (σ.1 10)]) (n := 1) rfl hl.1 rfl (Nat.le_of_ble_eq_true rfl) dM_expression_172 (fun H locs hW => ?_)
  refine lv_iconst (pc := 175) (v := 1) hx hb dM_expression_175 (by decide) ?_
  refine lv_istore_n (pc := 176) (lv' := [(2, .int (1 : Int32)), (0, .ref (h 0)), (1, .int x1), (3, .int x3)]) hx hb dM_expression_176 rfl hl (by decide) rfl (fun ls hl => ?_)
  refine lv_goto (pc := 177) (tgt := 252) hx hb dM_expression_177 (by decide) ?_
  exact bM_expression_252 N rec33 C hrec33 _ _ _ _ hM _ _ hW _ (lv_sub hl [1, 2, 0, 3] rfl)
def M_expression_129 (N : Nat) (rec33 : Int32 → Int32 → Int32 → MS → Option (Int32 × MS)) : Nat → Int32 → Int32 → MS → Option (Int32 × MS)
  | 0 => fun _ _ _ => none
  | n + 1 => fun x1 x3 σ => (if (σ.1 27) ≤ 0 then M_expression_167 N rec33 x1 x3 σ else gd (inB ((σ.1 27) - (1 : Int32)) 4100) (cr (M_rank  (σ.2 7 ((σ.1 27) - (1 : Int32)).toNatClampNeg)) (fun r2 => cr (M_rank  (σ.1 10)) (fun r3 => (if r2 < r3 then M_expression_167 N rec33 x1 x3 σ else cl (M_join  σ) (fun r4 σ5 => (M_expression_129 N rec33 n) x1 x3 σ5))))))
set_option maxHeartbeats 4000000 in
set_option maxRecDepth 100000 in
theorem bM_expression_129 (N : Nat) (rec33 : Int32 → Int32 → Int32 → MS → Option (Int32 × MS)) {r : Int32} {σ' : MS} (C : CxM p s m args meth c cM_expression 6 (some .int) D dA A) (hrec33 : ∀ (x1 : Int32) (x2 : Int32) (x3 : Int32) (σ : MS), rec33 x1 x2 x3 σ = some (r, σ') → ∀ (H : Heap) (locs : List Loc), WdM D dA h A s σ H locs → ∀ (ls : Array Slot), lv_has ls 6 [(0, .ref (h 0)), (1, .int x1), (2, .int x2), (3, .int x3)] → W p l e rm_expression s m args below meth c H locs 0 0 (MQ below (QM D dA h A σ' (some (.int r))) args s 0 0 A) (F0 m 33 ls [])) : ∀ (n : Nat) (x1 : Int32) (x3 : Int32) (σ : MS), M_expression_129 N rec33 n x1 x3 σ = some (r, σ') → ∀ (H : Heap) (locs : List Loc), WdM D dA h A s σ H locs → ∀ (ls : Array Slot), lv_has ls 6 [(0, .ref (h 0)), (1, .int x1), (3, .int x3)] → W p l e rm_expression s m args below meth c H locs 0 0 (MQ below (QM D dA h A σ' (some (.int r))) args s 0 0 A) (F0 m 129 ls []) := by
  have hx := C.1.1
  have hb := C.1.2.1
  have hown := C.1.2.2.2.2.1
  have hT := C.1.2.2.2.2.2.1
  intro n
  induction n with
  | zero => intro x1 x3 σ hM; cases hM
  | succ n hrec129 =>
    intro x1 x3 σ hM H locs hW ls hl
    rw [M_expression_129] at hM
    refine lv_aload_n (pc := 129) hx hb dM_expression_129 rfl (lv_at hl 0 rfl) ?_
    refine gM (pc := 130) C hW 38 (by decide) q_1695 rfl rfl dM_expression_130 ?_
    refine lv_if_le (pc := 133) (tgt := 167) hx hb dM_expression_133 (by decide) (fun hc => ?_) (fun hc => ?_)
    · replace hM := it_t hc hM
      exact bM_expression_167 N rec33 C hrec33 _ _ _ hM _ _ hW _ (lv_sub hl [0, 1, 2] rfl)
    · replace hM := it_f hc hM
      refine lv_aload_n (pc := 136) hx hb dM_expression_136 rfl (lv_at hl 0 rfl) ?_
      refine gM (pc := 137) C hW 37 (by decide) q_1694 rfl rfl dM_expression_137 ?_
      refine lv_aload_n (pc := 140) hx hb dM_expression_140 rfl (lv_at hl 0 rfl) ?_
      refine gM (pc := 141) C hW 38 (by decide) q_1695 rfl rfl dM_expression_141 ?_
      refine lv_iconst (pc := 144) (v := 1) hx hb dM_expression_144 (by decide) ?_
      refine lv_isub (pc := 145) hx hb dM_expression_145 ?_
      obtain ⟨hg1, hM⟩ := gd_some hM
      refine x_ldI (pc := 146) C hW 11 rfl hg1 dM_expression_146 ?_
      obtain ⟨r2, hr2, hM⟩ := cr_some hM
      refine x_callSi (pc := 147) C.1 (kM_rank l  (σ.2 7 ((σ.1 27) - (1 : Int32)).toNatClampNeg) hr2) gM_rank_525 ⟨rfl, by decide, by decide, by decide +kernel⟩ ⟨rfl, rfl⟩ ⟨by decide, by decide⟩ ⟨by decide, by decide⟩ (As := [.int (σ.2 7 ((σ.1 27) - (1 : Int32)).toNatClampNeg)]) (n := 1) rfl hl.1 rfl (Nat.le_of_ble_eq_true rfl) dM_expression_147 ?_
      refine lv_aload_n (pc := 150) hx hb dM_expression_150 rfl (lv_at hl 0 rfl) ?_
      refine gM (pc := 151) C hW 20 (by decide) q_1677 rfl rfl dM_expression_151 ?_
      obtain ⟨r3, hr3, hM⟩ := cr_some hM
      refine x_callSi (pc := 154) C.1 (kM_rank l  (σ.1 10) hr3) gM_rank_525 ⟨rfl, by decide, by decide, by decide +kernel⟩ ⟨rfl, rfl⟩ ⟨by decide, by decide⟩ ⟨by decide, by decide⟩ (As := [.int (σ.1 10)]) (n := 1) rfl hl.1 rfl (Nat.le_of_ble_eq_true rfl) dM_expression_154 ?_
      refine lv_icmp_lt (pc := 157) (tgt := 167) hx hb dM_expression_157 (by decide) (fun hc => ?_) (fun hc => ?_)
      · replace hM := it_t hc hM
        exact bM_expression_167 N rec33 C hrec33 _ _ _ hM _ _ hW _ (lv_sub hl [0, 1, 2] rfl)
      · replace hM := it_f hc hM
        refine lv_aload_n (pc := 160) hx hb dM_expression_160 rfl (lv_at hl 0 rfl) ?_
        obtain ⟨r4, σ5, hr4, hM⟩ := cl_some hM
        refine x_callMv (pc := 161) C hW (kM_join l D dA h  _ hr4) gM_join_528 ⟨rfl, by decide, by decide, by decide +kernel⟩ ⟨rfl, rfl⟩ ⟨by decide, by decide⟩ ⟨by decide, by decide⟩ (As := []) (n := 0) rfl hl.1 rfl (Nat.le_of_ble_eq_true rfl) dM_expression_161 (fun H locs hW => ?_)
        refine lv_goto (pc := 164) (tgt := 129) hx hb dM_expression_164 (by decide) ?_
        exact hrec129 _ _ _ hM _ _ hW _ (lv_sub hl [0, 1, 2] rfl)
def M_expression_108 (N : Nat) (rec33 : Int32 → Int32 → Int32 → MS → Option (Int32 × MS)) (x2 : Int32) (x3 : Int32) (t0 : Int32) (σ : MS) : Option (Int32 × MS) :=
  M_expression_252 N rec33 t0 x2 x3 σ
set_option maxHeartbeats 4000000 in
set_option maxRecDepth 100000 in
theorem bM_expression_108 (N : Nat) (rec33 : Int32 → Int32 → Int32 → MS → Option (Int32 × MS)) {r : Int32} {σ' : MS} (C : CxM p s m args meth c cM_expression 6 (some .int) D dA A) (hrec33 : ∀ (x1 : Int32) (x2 : Int32) (x3 : Int32) (σ : MS), rec33 x1 x2 x3 σ = some (r, σ') → ∀ (H : Heap) (locs : List Loc), WdM D dA h A s σ H locs → ∀ (ls : Array Slot), lv_has ls 6 [(0, .ref (h 0)), (1, .int x1), (2, .int x2), (3, .int x3)] → W p l e rm_expression s m args below meth c H locs 0 0 (MQ below (QM D dA h A σ' (some (.int r))) args s 0 0 A) (F0 m 33 ls [])) (x2 : Int32) (x3 : Int32) (t0 : Int32) (σ : MS) (hM : M_expression_108 N rec33 x2 x3 t0 σ = some (r, σ')) (H : Heap) (locs : List Loc) (hW : WdM D dA h A s σ H locs) (ls : Array Slot) (hl : lv_has ls 6 [(0, .ref (h 0)), (2, .int x2), (3, .int x3)]) : W p l e rm_expression s m args below meth c H locs 0 0 (MQ below (QM D dA h A σ' (some (.int r))) args s 0 0 A) (F0 m 108 ls [.int t0]) := by
  have hx := C.1.1
  have hb := C.1.2.1
  have hown := C.1.2.2.2.2.1
  have hT := C.1.2.2.2.2.2.1
  unfold M_expression_108 at hM
  refine lv_istore_n (pc := 108) (lv' := [(1, .int t0), (0, .ref (h 0)), (2, .int x2), (3, .int x3)]) hx hb dM_expression_108 rfl hl (by decide) rfl (fun ls hl => ?_)
  refine lv_goto (pc := 109) (tgt := 252) hx hb dM_expression_109 (by decide) ?_
  exact bM_expression_252 N rec33 C hrec33 _ _ _ _ hM _ _ hW _ (lv_sub hl [1, 0, 2, 3] rfl)
def M_expression_95 (N : Nat) (rec33 : Int32 → Int32 → Int32 → MS → Option (Int32 × MS)) (x1 : Int32) (x3 : Int32) (x5 : Int32) (t0 : Int32) (σ : MS) : Option (Int32 × MS) :=
  (if x5 = 0 then M_expression_108 N rec33 t0 x3 x1 σ else M_expression_108 N rec33 t0 x3 (x1 + (1 : Int32)) σ)
set_option maxHeartbeats 4000000 in
set_option maxRecDepth 100000 in
theorem bM_expression_95 (N : Nat) (rec33 : Int32 → Int32 → Int32 → MS → Option (Int32 × MS)) {r : Int32} {σ' : MS} (C : CxM p s m args meth c cM_expression 6 (some .int) D dA A) (hrec33 : ∀ (x1 : Int32) (x2 : Int32) (x3 : Int32) (σ : MS), rec33 x1 x2 x3 σ = some (r, σ') → ∀ (H : Heap) (locs : List Loc), WdM D dA h A s σ H locs → ∀ (ls : Array Slot), lv_has ls 6 [(0, .ref (h 0)), (1, .int x1), (2, .int x2), (3, .int x3)] → W p l e rm_expression s m args below meth c H locs 0 0 (MQ below (QM D dA h A σ' (some (.int r))) args s 0 0 A) (F0 m 33 ls [])) (x1 : Int32) (x3 : Int32) (x5 : Int32) (t0 : Int32) (σ : MS) (hM : M_expression_95 N rec33 x1 x3 x5 t0 σ = some (r, σ')) (H : Heap) (locs : List Loc) (hW : WdM D dA h A s σ H locs) (ls : Array Slot) (hl : lv_has ls 6 [(0, .ref (h 0)), (1, .int x1), (3, .int x3), (5, .int x5)]) : W p l e rm_expression s m args below meth c H locs 0 0 (MQ below (QM D dA h A σ' (some (.int r))) args s 0 0 A) (F0 m 95 ls [.int t0]) := by
  have hx := C.1.1
  have hb := C.1.2.1
  have hown := C.1.2.2.2.2.1
  have hT := C.1.2.2.2.2.2.1
  unfold M_expression_95 at hM
  refine lv_istore_n (pc := 95) (lv' := [(2, .int t0), (0, .ref (h 0)), (1, .int x1), (3, .int x3), (5, .int x5)]) hx hb dM_expression_95 rfl hl (by decide) rfl (fun ls hl => ?_)
  refine lv_iload (pc := 96) hx hb dM_expression_96 (lv_at hl 4 rfl) ?_
  refine lv_if_eq (pc := 98) (tgt := 107) hx hb dM_expression_98 (by decide) (fun hc => ?_) (fun hc => ?_)
  · replace hM := it_t hc hM
    refine lv_iload_n (pc := 107) hx hb dM_expression_107 rfl (lv_at hl 2 rfl) ?_
    exact bM_expression_108 N rec33 C hrec33 _ _ _ _ hM _ _ hW _ (lv_sub hl [1, 0, 3] rfl)
  · replace hM := it_f hc hM
    refine lv_iload_n (pc := 101) hx hb dM_expression_101 rfl (lv_at hl 2 rfl) ?_
    refine lv_iconst (pc := 102) (v := 1) hx hb dM_expression_102 (by decide) ?_
    refine lv_iadd (pc := 103) hx hb dM_expression_103 ?_
    refine lv_goto (pc := 104) (tgt := 108) hx hb dM_expression_104 (by decide) ?_
    exact bM_expression_108 N rec33 C hrec33 _ _ _ _ hM _ _ hW _ (lv_sub hl [1, 0, 3] rfl)
def M_expression_81 (N : Nat) (rec33 : Int32 → Int32 → Int32 → MS → Option (Int32 × MS)) (x1 : Int32) (x3 : Int32) (t0 : Int32) (σ : MS) : Option (Int32 × MS) :=
  cl (M_operand N σ) (fun r1 σ2 => (if r1 = 0 then M_expression_95 N rec33 x1 x3 t0 (1 : Int32) σ2 else M_expression_95 N rec33 x1 x3 t0 (0 : Int32) σ2))
set_option maxHeartbeats 4000000 in
set_option maxRecDepth 100000 in
theorem bM_expression_81 (N : Nat) (rec33 : Int32 → Int32 → Int32 → MS → Option (Int32 × MS)) {r : Int32} {σ' : MS} (C : CxM p s m args meth c cM_expression 6 (some .int) D dA A) (hrec33 : ∀ (x1 : Int32) (x2 : Int32) (x3 : Int32) (σ : MS), rec33 x1 x2 x3 σ = some (r, σ') → ∀ (H : Heap) (locs : List Loc), WdM D dA h A s σ H locs → ∀ (ls : Array Slot), lv_has ls 6 [(0, .ref (h 0)), (1, .int x1), (2, .int x2), (3, .int x3)] → W p l e rm_expression s m args below meth c H locs 0 0 (MQ below (QM D dA h A σ' (some (.int r))) args s 0 0 A) (F0 m 33 ls [])) (x1 : Int32) (x3 : Int32) (t0 : Int32) (σ : MS) (hM : M_expression_81 N rec33 x1 x3 t0 σ = some (r, σ')) (H : Heap) (locs : List Loc) (hW : WdM D dA h A s σ H locs) (ls : Array Slot) (hl : lv_has ls 6 [(0, .ref (h 0)), (1, .int x1), (3, .int x3)]) : W p l e rm_expression s m args below meth c H locs 0 0 (MQ below (QM D dA h A σ' (some (.int r))) args s 0 0 A) (F0 m 81 ls [.int t0]) := by
  have hx := C.1.1
  have hb := C.1.2.1
  have hown := C.1.2.2.2.2.1
  have hT := C.1.2.2.2.2.2.1
  unfold M_expression_81 at hM
  refine lv_istore (pc := 81) (lv' := [(5, .int t0), (0, .ref (h 0)), (1, .int x1), (3, .int x3)]) hx hb dM_expression_81 hl (by decide) rfl (fun ls hl => ?_)
  refine lv_aload_n (pc := 83) hx hb dM_expression_83 rfl (lv_at hl 1 rfl) ?_
  obtain ⟨r1, σ2, hr1, hM⟩ := cl_some hM
  refine x_callMi (pc := 84) C hW (kM_operand l D dA h N _ hr1) gM_operand_521 ⟨rfl, by decide, by decide, by decide +kernel⟩ ⟨rfl, rfl⟩ ⟨by decide, by decide⟩ ⟨by decide, by decide⟩ (As := []) (n := 0) rfl hl.1 rfl (Nat.le_of_ble_eq_true rfl) dM_expression_84 (fun H locs hW => ?_)
  refine lv_if_ne (pc := 87) (tgt := 94) hx hb dM_expression_87 (by decide) (fun hc => ?_) (fun hc => ?_)
  · replace hM := it_f hc hM
    refine lv_iconst (pc := 94) (v := 0) hx hb dM_expression_94 (by decide) ?_
    exact bM_expression_95 N rec33 C hrec33 _ _ _ _ _ hM _ _ hW _ (lv_sub hl [1, 2, 3, 0] rfl)
  · replace hM := it_t hc hM
    refine lv_iconst (pc := 90) (v := 1) hx hb dM_expression_90 (by decide) ?_
    refine lv_goto (pc := 91) (tgt := 95) hx hb dM_expression_91 (by decide) ?_
    exact bM_expression_95 N rec33 C hrec33 _ _ _ _ _ hM _ _ hW _ (lv_sub hl [1, 2, 3, 0] rfl)
def M_expression_76 (N : Nat) (rec33 : Int32 → Int32 → Int32 → MS → Option (Int32 × MS)) (x1 : Int32) (x3 : Int32) (σ : MS) : Option (Int32 × MS) :=
  M_expression_81 N rec33 x1 x3 (1 : Int32) σ
set_option maxHeartbeats 4000000 in
set_option maxRecDepth 100000 in
theorem bM_expression_76 (N : Nat) (rec33 : Int32 → Int32 → Int32 → MS → Option (Int32 × MS)) {r : Int32} {σ' : MS} (C : CxM p s m args meth c cM_expression 6 (some .int) D dA A) (hrec33 : ∀ (x1 : Int32) (x2 : Int32) (x3 : Int32) (σ : MS), rec33 x1 x2 x3 σ = some (r, σ') → ∀ (H : Heap) (locs : List Loc), WdM D dA h A s σ H locs → ∀ (ls : Array Slot), lv_has ls 6 [(0, .ref (h 0)), (1, .int x1), (2, .int x2), (3, .int x3)] → W p l e rm_expression s m args below meth c H locs 0 0 (MQ below (QM D dA h A σ' (some (.int r))) args s 0 0 A) (F0 m 33 ls [])) (x1 : Int32) (x3 : Int32) (σ : MS) (hM : M_expression_76 N rec33 x1 x3 σ = some (r, σ')) (H : Heap) (locs : List Loc) (hW : WdM D dA h A s σ H locs) (ls : Array Slot) (hl : lv_has ls 6 [(0, .ref (h 0)), (1, .int x1), (3, .int x3)]) : W p l e rm_expression s m args below meth c H locs 0 0 (MQ below (QM D dA h A σ' (some (.int r))) args s 0 0 A) (F0 m 76 ls []) := by
  have hx := C.1.1
  have hb := C.1.2.1
  have hown := C.1.2.2.2.2.1
  have hT := C.1.2.2.2.2.2.1
  unfold M_expression_76 at hM
  refine lv_iconst (pc := 76) (v := 1) hx hb dM_expression_76 (by decide) ?_
  refine lv_goto (pc := 77) (tgt := 81) hx hb dM_expression_77 (by decide) ?_
  exact bM_expression_81 N rec33 C hrec33 _ _ _ _ hM _ _ hW _ (lv_sub hl [0, 1, 2] rfl)
def M_expression_33 (N : Nat)  : Nat → Int32 → Int32 → Int32 → MS → Option (Int32 × MS)
  | 0 => fun _ _ _ _ => none
  | n + 1 => fun x1 x2 x3 σ => (if x3 = 0 then M_expression_255 N  N σ else (if (σ.1 14) = 0 then cl (M_scan N σ) (fun r1 σ2 => (if x2 = 0 then cr (M_rank  (σ2.1 10)) (fun r3 => (if r3 ≤ 0 then M_expression_180 N (M_expression_33 N  n) x1 x2 x3 (σ.1 9) σ2 else (if (σ2.1 10) = 0 then M_expression_180 N (M_expression_33 N  n) x1 x2 x3 (σ.1 9) σ2 else M_expression_129 N (M_expression_33 N  n) N x1 x3 σ2))) else (if (σ2.1 10) = (40 : Int32) then M_expression_76 N (M_expression_33 N  n) x1 x3 σ2 else (if (σ2.1 10) = (37 : Int32) then M_expression_76 N (M_expression_33 N  n) x1 x3 σ2 else M_expression_81 N (M_expression_33 N  n) x1 x3 (0 : Int32) σ2)))) else M_expression_255 N  N σ))
set_option maxHeartbeats 4000000 in
set_option maxRecDepth 100000 in
theorem bM_expression_33 (N : Nat)  {r : Int32} {σ' : MS} (C : CxM p s m args meth c cM_expression 6 (some .int) D dA A) : ∀ (n : Nat) (x1 : Int32) (x2 : Int32) (x3 : Int32) (σ : MS), M_expression_33 N  n x1 x2 x3 σ = some (r, σ') → ∀ (H : Heap) (locs : List Loc), WdM D dA h A s σ H locs → ∀ (ls : Array Slot), lv_has ls 6 [(0, .ref (h 0)), (1, .int x1), (2, .int x2), (3, .int x3)] → W p l e rm_expression s m args below meth c H locs 0 0 (MQ below (QM D dA h A σ' (some (.int r))) args s 0 0 A) (F0 m 33 ls []) := by
  have hx := C.1.1
  have hb := C.1.2.1
  have hown := C.1.2.2.2.2.1
  have hT := C.1.2.2.2.2.2.1
  intro n
  induction n with
  | zero => intro x1 x2 x3 σ hM; cases hM
  | succ n hrec33 =>
    intro x1 x2 x3 σ hM H locs hW ls hl
    rw [M_expression_33] at hM
    refine lv_iload_n (pc := 33) hx hb dM_expression_33 rfl (lv_at hl 3 rfl) ?_
    refine lv_if_eq (pc := 34) (tgt := 255) hx hb dM_expression_34 (by decide) (fun hc => ?_) (fun hc => ?_)
    · replace hM := it_t hc hM
      exact bM_expression_255 N  C  N  _ hM _ _ hW _ (lv_sub hl [0] rfl)
    · replace hM := it_f hc hM
      refine lv_aload_n (pc := 37) hx hb dM_expression_37 rfl (lv_at hl 0 rfl) ?_
      refine gM (pc := 38) C hW 24 (by decide) q_1681 rfl rfl dM_expression_38 ?_
      refine lv_if_ne (pc := 41) (tgt := 255) hx hb dM_expression_41 (by decide) (fun hc => ?_) (fun hc => ?_)
      · replace hM := it_f hc hM
        exact bM_expression_255 N  C  N  _ hM _ _ hW _ (lv_sub hl [0] rfl)
      · replace hM := it_t hc hM
        refine lv_aload_n (pc := 44) hx hb dM_expression_44 rfl (lv_at hl 0 rfl) ?_
        refine gM (pc := 45) C hW 19 (by decide) q_1676 rfl rfl dM_expression_45 ?_
        refine lv_istore (pc := 48) (lv' := [(4, .int (σ.1 9)), (0, .ref (h 0)), (1, .int x1), (2, .int x2), (3, .int x3)]) hx hb dM_expression_48 hl (by decide) rfl (fun ls hl => ?_)
        refine lv_aload_n (pc := 50) hx hb dM_expression_50 rfl (lv_at hl 1 rfl) ?_
        obtain ⟨r1, σ2, hr1, hM⟩ := cl_some hM
        refine x_callMv (pc := 51) C hW (kM_scan l D dA h N _ hr1) gM_scan_426 ⟨rfl, by decide, by decide, by decide +kernel⟩ ⟨rfl, rfl⟩ ⟨by decide, by decide⟩ ⟨by decide, by decide⟩ (As := []) (n := 0) rfl hl.1 rfl (Nat.le_of_ble_eq_true rfl) dM_expression_51 (fun H locs hW => ?_)
        refine lv_iload_n (pc := 54) hx hb dM_expression_54 rfl (lv_at hl 3 rfl) ?_
        refine lv_if_eq (pc := 55) (tgt := 112) hx hb dM_expression_55 (by decide) (fun hc => ?_) (fun hc => ?_)
        · replace hM := it_t hc hM
          refine lv_aload_n (pc := 112) hx hb dM_expression_112 rfl (lv_at hl 1 rfl) ?_
          refine gM (pc := 113) C hW 20 (by decide) q_1677 rfl rfl dM_expression_113 ?_
          obtain ⟨r3, hr3, hM⟩ := cr_some hM
          refine x_callSi (pc := 116) C.1 (kM_rank l  (σ2.1 10) hr3) gM_rank_525 ⟨rfl, by decide, by decide, by decide +kernel⟩ ⟨rfl, rfl⟩ ⟨by decide, by decide⟩ ⟨by decide, by decide⟩ (As := [.int (σ2.1 10)]) (n := 1) rfl hl.1 rfl (Nat.le_of_ble_eq_true rfl) dM_expression_116 ?_
          refine lv_if_le (pc := 119) (tgt := 180) hx hb dM_expression_119 (by decide) (fun hc => ?_) (fun hc => ?_)
          · replace hM := it_t hc hM
            exact bM_expression_180 N _ C hrec33 _ _ _ _ _ hM _ _ hW _ (lv_sub hl [1, 2, 3, 4, 0] rfl)
          · replace hM := it_f hc hM
            refine lv_aload_n (pc := 122) hx hb dM_expression_122 rfl (lv_at hl 1 rfl) ?_
            refine gM (pc := 123) C hW 20 (by decide) q_1677 rfl rfl dM_expression_123 ?_
            refine lv_if_eq (pc := 126) (tgt := 180) hx hb dM_expression_126 (by decide) (fun hc => ?_) (fun hc => ?_)
            · replace hM := it_t hc hM
              exact bM_expression_180 N _ C hrec33 _ _ _ _ _ hM _ _ hW _ (lv_sub hl [1, 2, 3, 4, 0] rfl)
            · replace hM := it_f hc hM
              exact bM_expression_129 N _ C hrec33 N _ _ _ hM _ _ hW _ (lv_sub hl [1, 2, 4] rfl)
        · replace hM := it_f hc hM
          refine lv_aload_n (pc := 58) hx hb dM_expression_58 rfl (lv_at hl 1 rfl) ?_
          refine gM (pc := 59) C hW 20 (by decide) q_1677 rfl rfl dM_expression_59 ?_
          refine lv_bipush (pc := 62) (v := 40) hx hb dM_expression_62 (by decide) ?_
          refine lv_icmp_eq (pc := 64) (tgt := 76) hx hb dM_expression_64 (by decide) (fun hc => ?_) (fun hc => ?_)
          · replace hM := it_t hc hM
            exact bM_expression_76 N _ C hrec33 _ _ _ hM _ _ hW _ (lv_sub hl [1, 2, 4] rfl)
          · replace hM := it_f hc hM
            refine lv_aload_n (pc := 67) hx hb dM_expression_67 rfl (lv_at hl 1 rfl) ?_
            refine gM (pc := 68) C hW 20 (by decide) q_1677 rfl rfl dM_expression_68 ?_
            refine lv_bipush (pc := 71) (v := 37) hx hb dM_expression_71 (by decide) ?_
            refine lv_icmp_ne (pc := 73) (tgt := 80) hx hb dM_expression_73 (by decide) (fun hc => ?_) (fun hc => ?_)
            · replace hM := it_f hc hM
              refine lv_iconst (pc := 80) (v := 0) hx hb dM_expression_80 (by decide) ?_
              exact bM_expression_81 N _ C hrec33 _ _ _ _ hM _ _ hW _ (lv_sub hl [1, 2, 4] rfl)
            · replace hM := it_t hc hM
              exact bM_expression_76 N _ C hrec33 _ _ _ hM _ _ hW _ (lv_sub hl [1, 2, 4] rfl)
def M_expression (N : Nat)  (σ : MS) : Option (Int32 × MS) :=
  bnd (sF σ 27 (0 : Int32)) (fun σ1 => bnd (sF σ1 28 (4100 : Int32)) (fun σ2 => bnd (sF σ2 24 (0 : Int32)) (fun σ3 => bnd (sF σ3 25 (0 : Int32)) (fun σ4 => bnd (sF σ4 26 (0 : Int32)) (fun σ5 => M_expression_33 N  N (0 : Int32) (1 : Int32) (1 : Int32) σ5)))))
set_option maxHeartbeats 4000000 in
set_option maxRecDepth 100000 in
theorem bM_expression_0 (N : Nat)  {r : Int32} {σ' : MS} (C : CxM p s m args meth c cM_expression 6 (some .int) D dA A)  (σ : MS) (hM : M_expression N   σ = some (r, σ')) (H : Heap) (locs : List Loc) (hW : WdM D dA h A s σ H locs) (ls : Array Slot) (hl : lv_has ls 6 [(0, .ref (h 0))]) : W p l e rm_expression s m args below meth c H locs 0 0 (MQ below (QM D dA h A σ' (some (.int r))) args s 0 0 A) (F0 m 0 ls []) := by
  have hx := C.1.1
  have hb := C.1.2.1
  have hown := C.1.2.2.2.2.1
  have hT := C.1.2.2.2.2.2.1
  unfold M_expression at hM
  refine lv_aload_n (pc := 0) hx hb dM_expression_0 rfl (lv_at hl 0 rfl) ?_
  refine lv_iconst (pc := 1) (v := 0) hx hb dM_expression_1 (by decide) ?_
  refine pM (pc := 2) (ty := .int) C hW 38 27 (by decide) q_1695 rfl rfl (by decide +kernel) rfl rfl (st_signs dA h _ _) dM_expression_2 (fun H locs hW => ?_)
  obtain ⟨σ1, eσ1, hM⟩ := bnd_some hM
  rw [← eσ1] at hW
  refine lv_aload_n (pc := 5) hx hb dM_expression_5 rfl (lv_at hl 0 rfl) ?_
  refine lv_sipush (pc := 6) (v := 4100) hx hb dM_expression_6 (by decide) ?_
  refine pM (pc := 9) (ty := .int) C hW 39 28 (by decide) q_1696 rfl rfl (by decide +kernel) rfl rfl (st_values dA h _ _) dM_expression_9 (fun H locs hW => ?_)
  obtain ⟨σ2, eσ2, hM⟩ := bnd_some hM
  rw [← eσ2] at hW
  refine lv_aload_n (pc := 12) hx hb dM_expression_12 rfl (lv_at hl 0 rfl) ?_
  refine lv_iconst (pc := 13) (v := 0) hx hb dM_expression_13 (by decide) ?_
  refine pM (pc := 14) (ty := .boolean) C hW 34 24 (by decide) q_1691 rfl rfl (by decide +kernel) rfl rfl (st_missing dA h _ _) dM_expression_14 (fun H locs hW => ?_)
  obtain ⟨σ3, eσ3, hM⟩ := bnd_some hM
  rw [← eσ3] at hW
  refine lv_aload_n (pc := 17) hx hb dM_expression_17 rfl (lv_at hl 0 rfl) ?_
  refine lv_iconst (pc := 18) (v := 0) hx hb dM_expression_18 (by decide) ?_
  refine pM (pc := 19) (ty := .boolean) C hW 35 25 (by decide) q_1692 rfl rfl (by decide +kernel) rfl rfl (st_divided dA h _ _) dM_expression_19 (fun H locs hW => ?_)
  obtain ⟨σ4, eσ4, hM⟩ := bnd_some hM
  rw [← eσ4] at hW
  refine lv_aload_n (pc := 22) hx hb dM_expression_22 rfl (lv_at hl 0 rfl) ?_
  refine lv_iconst (pc := 23) (v := 0) hx hb dM_expression_23 (by decide) ?_
  refine pM (pc := 24) (ty := .boolean) C hW 36 26 (by decide) q_1693 rfl rfl (by decide +kernel) rfl rfl (st_loose dA h _ _) dM_expression_24 (fun H locs hW => ?_)
  obtain ⟨σ5, eσ5, hM⟩ := bnd_some hM
  rw [← eσ5] at hW
  refine lv_iconst (pc := 27) (v := 0) hx hb dM_expression_27 (by decide) ?_
  refine lv_istore_n (pc := 28) (lv' := [(1, .int (0 : Int32)), (0, .ref (h 0))]) hx hb dM_expression_28 rfl hl (by decide) rfl (fun ls hl => ?_)
  refine lv_iconst (pc := 29) (v := 1) hx hb dM_expression_29 (by decide) ?_
  refine lv_istore_n (pc := 30) (lv' := [(2, .int (1 : Int32)), (1, .int (0 : Int32)), (0, .ref (h 0))]) hx hb dM_expression_30 rfl hl (by decide) rfl (fun ls hl => ?_)
  refine lv_iconst (pc := 31) (v := 1) hx hb dM_expression_31 (by decide) ?_
  refine lv_istore_n (pc := 32) (lv' := [(3, .int (1 : Int32)), (2, .int (1 : Int32)), (1, .int (0 : Int32)), (0, .ref (h 0))]) hx hb dM_expression_32 rfl hl (by decide) rfl (fun ls hl => ?_)
  exact bM_expression_33 N  C  N _ _ _ _ hM _ _ hW _ (lv_sub hl [3, 2, 1, 0] rfl)
theorem kM_expression (l : Launch) (D : va_G) (dA : Nat → ClassId) (h : Nat → Nat) (N : Nat)  (σ : MS) {r : Int32} {σ' : MS} (hM : M_expression N  σ = some (r, σ')) : KM l D dA yM_expression cM_expression 6 (some .int) rm_expression h σ [] (some (.int r)) σ' := x_enterM rfl (Nat.le_of_ble_eq_true rfl) (fun p e s m args below meth c A C hW ls hl => bM_expression_0 N C  σ hM s.heap [] hW ls hl)
end
