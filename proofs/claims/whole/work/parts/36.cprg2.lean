theorem qc_18 : (Jvm.Cond.initialized "LineAssembler$Item") ∈ lw_gd := uc_0 (List.mem_of_getElem? (i := 18) (by decide +kernel)) (by decide +kernel)
theorem qc_331 : (Jvm.Cond.instantiable "LineAssembler$Item" (9 : Nat)) ∈ lw_gd := uc_1 (List.mem_of_getElem? (i := 91) (by decide +kernel)) (by decide +kernel)
theorem qc_333 : (Jvm.Cond.instanceMethod ({ cls := "LineAssembler$Item", name := "<init>", desc := "()V" } : Jvm.MethodName)) ∈ lw_gd := uc_1 (List.mem_of_getElem? (i := 93) (by decide +kernel)) (by decide +kernel)
theorem qc_334 : (Jvm.Cond.code ({ cls := "LineAssembler$Item", name := "<init>", desc := "()V" } : Jvm.MethodName) prog_5_method_1_code (1 : Nat) (Option.none : Option Jvm.ClassFile.FieldType)) ∈ lw_gd := uc_1 (List.mem_of_getElem? (i := 94) (by decide +kernel)) (by decide +kernel)
theorem qc_337 : (Jvm.Cond.fieldLink "LineAssembler$Program" (81 : Nat) "LineAssembler$Item" "lineNumber" "I") ∈ lw_gd := uc_1 (List.mem_of_getElem? (i := 97) (by decide +kernel)) (by decide +kernel)
theorem qc_355 : (Jvm.Cond.fieldLink "LineAssembler$Program" (95 : Nat) "LineAssembler$Item" "head" "I") ∈ lw_gd := uc_1 (List.mem_of_getElem? (i := 115) (by decide +kernel)) (by decide +kernel)
theorem qc_358 : (Jvm.Cond.fieldLink "LineAssembler$Program" (96 : Nat) "LineAssembler$Item" "from" "I") ∈ lw_gd := uc_1 (List.mem_of_getElem? (i := 118) (by decide +kernel)) (by decide +kernel)
theorem qc_362 : (Jvm.Cond.fieldLink "LineAssembler$Program" (99 : Nat) "LineAssembler$Item" "to" "I") ∈ lw_gd := uc_1 (List.mem_of_getElem? (i := 122) (by decide +kernel)) (by decide +kernel)
theorem qc_384 : (Jvm.Cond.fieldLink "LineAssembler$Program" (12 : Nat) "LineAssembler$Program" "labels" "LLineAssembler$Row;") ∈ lw_gd := uc_1 (List.mem_of_getElem? (i := 144) (by decide +kernel)) (by decide +kernel)
theorem qc_387 : (Jvm.Cond.fieldLink "LineAssembler$Program" (18 : Nat) "LineAssembler$Program" "constants" "I") ∈ lw_gd := uc_1 (List.mem_of_getElem? (i := 147) (by decide +kernel)) (by decide +kernel)
theorem qc_397 : (Jvm.Cond.fieldLink "LineAssembler$Program" (31 : Nat) "LineAssembler$Program" "lineNumber" "I") ∈ lw_gd := uc_1 (List.mem_of_getElem? (i := 157) (by decide +kernel)) (by decide +kernel)
theorem qc_399 : (Jvm.Cond.fieldLink "LineAssembler$Program" (34 : Nat) "LineAssembler$Program" "inData" "Z") ∈ lw_gd := uc_1 (List.mem_of_getElem? (i := 159) (by decide +kernel)) (by decide +kernel)
theorem qc_401 : (Jvm.Cond.fieldLink "LineAssembler$Program" (38 : Nat) "LineAssembler$Program" "head" "I") ∈ lw_gd := uc_1 (List.mem_of_getElem? (i := 161) (by decide +kernel)) (by decide +kernel)
theorem qc_919 : (Jvm.Cond.methodLink "LineAssembler$Program" (62 : Nat) ({ cls := "LineAssembler$Row", name := "cut", desc := "(I)V" } : Jvm.MethodName)) ∈ lw_gd := uc_3 (List.mem_of_getElem? (i := 199) (by decide +kernel)) (by decide +kernel)
theorem qc_920 : (Jvm.Cond.methodLink "LineAssembler$Program" (66 : Nat) ({ cls := "LineAssembler$Program", name := "add", desc := "(III)LLineAssembler$Item;" } : Jvm.MethodName)) ∈ lw_gd := uc_3 (List.mem_of_getElem? (i := 200) (by decide +kernel)) (by decide +kernel)
theorem qc_921 : (Jvm.Cond.instanceMethod ({ cls := "LineAssembler$Program", name := "add", desc := "(III)LLineAssembler$Item;" } : Jvm.MethodName)) ∈ lw_gd := uc_3 (List.mem_of_getElem? (i := 201) (by decide +kernel)) (by decide +kernel)
theorem qc_922 : (Jvm.Cond.selects "LineAssembler$Program" ({ cls := "LineAssembler$Program", name := "add", desc := "(III)LLineAssembler$Item;" } : Jvm.MethodName) ({ cls := "LineAssembler$Program", name := "add", desc := "(III)LLineAssembler$Item;" } : Jvm.MethodName)) ∈ lw_gd := uc_3 (List.mem_of_getElem? (i := 202) (by decide +kernel)) (by decide +kernel)
theorem qc_923 : (Jvm.Cond.code ({ cls := "LineAssembler$Program", name := "add", desc := "(III)LLineAssembler$Item;" } : Jvm.MethodName) prog_10_method_3_code (5 : Nat) (Option.some (Jvm.ClassFile.FieldType.object "LineAssembler$Item"))) ∈ lw_gd := uc_3 (List.mem_of_getElem? (i := 203) (by decide +kernel)) (by decide +kernel)
theorem qc_928 : (Jvm.Cond.methodLink "LineAssembler$Program" (74 : Nat) ({ cls := "java/util/ArrayList", name := "add", desc := "(Ljava/lang/Object;)Z" } : Jvm.MethodName)) ∈ lw_gd := uc_3 (List.mem_of_getElem? (i := 208) (by decide +kernel)) (by decide +kernel)
theorem qc_929 : (Jvm.Cond.instanceMethod ({ cls := "java/util/ArrayList", name := "add", desc := "(Ljava/lang/Object;)Z" } : Jvm.MethodName)) ∈ lw_gd := uc_3 (List.mem_of_getElem? (i := 209) (by decide +kernel)) (by decide +kernel)
theorem qc_930 : (Jvm.Cond.selects "java/util/ArrayList" ({ cls := "java/util/ArrayList", name := "add", desc := "(Ljava/lang/Object;)Z" } : Jvm.MethodName) ({ cls := "java/util/ArrayList", name := "add", desc := "(Ljava/lang/Object;)Z" } : Jvm.MethodName)) ∈ lw_gd := uc_3 (List.mem_of_getElem? (i := 210) (by decide +kernel)) (by decide +kernel)
theorem qc_931 : (Jvm.Cond.code ({ cls := "java/util/ArrayList", name := "add", desc := "(Ljava/lang/Object;)Z" } : Jvm.MethodName) prog_37_method_25_code (2 : Nat) (Option.some Jvm.ClassFile.FieldType.boolean)) ∈ lw_gd := uc_3 (List.mem_of_getElem? (i := 211) (by decide +kernel)) (by decide +kernel)
abbrev cC_Prg_add : ByteArray := prog_10_method_3_code
def yC_Prg_add : MethodName := ⟨R_Prg, "add", "(III)LLineAssembler$Item;"⟩
theorem dC_Prg_add_0 : decode cC_Prg_add 0 = .ok (.aload_n 0, 1) := by decide +kernel
theorem dC_Prg_add_1 : decode cC_Prg_add 1 = .ok (.getfield 22, 3) := by decide +kernel
theorem dC_Prg_add_4 : decode cC_Prg_add 4 = .ok (.aload_n 0, 1) := by decide +kernel
theorem dC_Prg_add_5 : decode cC_Prg_add 5 = .ok (.getfield 47, 3) := by decide +kernel
theorem dC_Prg_add_8 : decode cC_Prg_add 8 = .ok (.invokevirtual 70, 3) := by decide +kernel
theorem dC_Prg_add_11 : decode cC_Prg_add 11 = .ok (.if_icmp .lt (18), 3) := by decide +kernel
theorem dC_Prg_add_14 : decode cC_Prg_add 14 = .ok (.aload_n 0, 1) := by decide +kernel
theorem dC_Prg_add_15 : decode cC_Prg_add 15 = .ok (.getfield 47, 3) := by decide +kernel
theorem dC_Prg_add_18 : decode cC_Prg_add 18 = .ok (.new 51, 3) := by decide +kernel
theorem dC_Prg_add_21 : decode cC_Prg_add 21 = .ok (.dup, 1) := by decide +kernel
theorem dC_Prg_add_22 : decode cC_Prg_add 22 = .ok (.invokespecial 53, 3) := by decide +kernel
theorem dC_Prg_add_25 : decode cC_Prg_add 25 = .ok (.invokevirtual 74, 3) := by decide +kernel
theorem dC_Prg_add_28 : decode cC_Prg_add 28 = .ok (.pop, 1) := by decide +kernel
theorem dC_Prg_add_29 : decode cC_Prg_add 29 = .ok (.aload_n 0, 1) := by decide +kernel
theorem dC_Prg_add_30 : decode cC_Prg_add 30 = .ok (.getfield 47, 3) := by decide +kernel
theorem dC_Prg_add_33 : decode cC_Prg_add 33 = .ok (.aload_n 0, 1) := by decide +kernel
theorem dC_Prg_add_34 : decode cC_Prg_add 34 = .ok (.getfield 22, 3) := by decide +kernel
theorem dC_Prg_add_37 : decode cC_Prg_add 37 = .ok (.invokevirtual 77, 3) := by decide +kernel
theorem dC_Prg_add_40 : decode cC_Prg_add 40 = .ok (.checkcast 51, 3) := by decide +kernel
theorem dC_Prg_add_43 : decode cC_Prg_add 43 = .ok (.astore 4, 2) := by decide +kernel
theorem dC_Prg_add_45 : decode cC_Prg_add 45 = .ok (.aload_n 0, 1) := by decide +kernel
theorem dC_Prg_add_46 : decode cC_Prg_add 46 = .ok (.dup, 1) := by decide +kernel
theorem dC_Prg_add_47 : decode cC_Prg_add 47 = .ok (.getfield 22, 3) := by decide +kernel
theorem dC_Prg_add_50 : decode cC_Prg_add 50 = .ok (.iconst (1), 1) := by decide +kernel
theorem dC_Prg_add_51 : decode cC_Prg_add 51 = .ok (.iadd, 1) := by decide +kernel
theorem dC_Prg_add_52 : decode cC_Prg_add 52 = .ok (.putfield 22, 3) := by decide +kernel
theorem dC_Prg_add_55 : decode cC_Prg_add 55 = .ok (.aload 4, 2) := by decide +kernel
theorem dC_Prg_add_57 : decode cC_Prg_add 57 = .ok (.aload_n 0, 1) := by decide +kernel
theorem dC_Prg_add_58 : decode cC_Prg_add 58 = .ok (.getfield 31, 3) := by decide +kernel
theorem dC_Prg_add_61 : decode cC_Prg_add 61 = .ok (.putfield 81, 3) := by decide +kernel
theorem dC_Prg_add_64 : decode cC_Prg_add 64 = .ok (.aload 4, 2) := by decide +kernel
theorem dC_Prg_add_66 : decode cC_Prg_add 66 = .ok (.aload_n 0, 1) := by decide +kernel
theorem dC_Prg_add_67 : decode cC_Prg_add 67 = .ok (.getfield 34, 3) := by decide +kernel
theorem dC_Prg_add_70 : decode cC_Prg_add 70 = .ok (.putfield 82, 3) := by decide +kernel
theorem dC_Prg_add_73 : decode cC_Prg_add 73 = .ok (.aload 4, 2) := by decide +kernel
theorem dC_Prg_add_75 : decode cC_Prg_add 75 = .ok (.iload_n 1, 1) := by decide +kernel
theorem dC_Prg_add_76 : decode cC_Prg_add 76 = .ok (.putfield 83, 3) := by decide +kernel
theorem dC_Prg_add_79 : decode cC_Prg_add 79 = .ok (.aload 4, 2) := by decide +kernel
theorem dC_Prg_add_81 : decode cC_Prg_add 81 = .ok (.iload_n 2, 1) := by decide +kernel
theorem dC_Prg_add_82 : decode cC_Prg_add 82 = .ok (.putfield 86, 3) := by decide +kernel
theorem dC_Prg_add_85 : decode cC_Prg_add 85 = .ok (.aload 4, 2) := by decide +kernel
theorem dC_Prg_add_87 : decode cC_Prg_add 87 = .ok (.iload_n 3, 1) := by decide +kernel
theorem dC_Prg_add_88 : decode cC_Prg_add 88 = .ok (.putfield 89, 3) := by decide +kernel
theorem dC_Prg_add_91 : decode cC_Prg_add 91 = .ok (.aload 4, 2) := by decide +kernel
theorem dC_Prg_add_93 : decode cC_Prg_add 93 = .ok (.iconst (0), 1) := by decide +kernel
theorem dC_Prg_add_94 : decode cC_Prg_add 94 = .ok (.putfield 92, 3) := by decide +kernel
theorem dC_Prg_add_97 : decode cC_Prg_add 97 = .ok (.aload 4, 2) := by decide +kernel
theorem dC_Prg_add_99 : decode cC_Prg_add 99 = .ok (.aload_n 0, 1) := by decide +kernel
theorem dC_Prg_add_100 : decode cC_Prg_add 100 = .ok (.getfield 38, 3) := by decide +kernel
theorem dC_Prg_add_103 : decode cC_Prg_add 103 = .ok (.putfield 95, 3) := by decide +kernel
theorem dC_Prg_add_106 : decode cC_Prg_add 106 = .ok (.aload 4, 2) := by decide +kernel
theorem dC_Prg_add_108 : decode cC_Prg_add 108 = .ok (.iconst (0), 1) := by decide +kernel
theorem dC_Prg_add_109 : decode cC_Prg_add 109 = .ok (.putfield 96, 3) := by decide +kernel
theorem dC_Prg_add_112 : decode cC_Prg_add 112 = .ok (.aload 4, 2) := by decide +kernel
theorem dC_Prg_add_114 : decode cC_Prg_add 114 = .ok (.iconst (0), 1) := by decide +kernel
theorem dC_Prg_add_115 : decode cC_Prg_add 115 = .ok (.putfield 99, 3) := by decide +kernel
theorem dC_Prg_add_118 : decode cC_Prg_add 118 = .ok (.aload 4, 2) := by decide +kernel
theorem dC_Prg_add_120 : decode cC_Prg_add 120 = .ok (.areturn, 1) := by decide +kernel
abbrev cC_Prg_addNear : ByteArray := prog_10_method_5_code
def yC_Prg_addNear : MethodName := ⟨R_Prg, "addNear", "(I)V"⟩
theorem dC_Prg_addNear_0 : decode cC_Prg_addNear 0 = .ok (.iload_n 1, 1) := by decide +kernel
theorem dC_Prg_addNear_1 : decode cC_Prg_addNear 1 = .ok (.ifCond .lt (47), 3) := by decide +kernel
theorem dC_Prg_addNear_4 : decode cC_Prg_addNear 4 = .ok (.iload_n 1, 1) := by decide +kernel
theorem dC_Prg_addNear_5 : decode cC_Prg_addNear 5 = .ok (.aload_n 0, 1) := by decide +kernel
theorem dC_Prg_addNear_6 : decode cC_Prg_addNear 6 = .ok (.getfield 58, 3) := by decide +kernel
theorem dC_Prg_addNear_9 : decode cC_Prg_addNear 9 = .ok (.arraylength, 1) := by decide +kernel
theorem dC_Prg_addNear_10 : decode cC_Prg_addNear 10 = .ok (.if_icmp .ge (38), 3) := by decide +kernel
theorem dC_Prg_addNear_13 : decode cC_Prg_addNear 13 = .ok (.aload_n 0, 1) := by decide +kernel
theorem dC_Prg_addNear_14 : decode cC_Prg_addNear 14 = .ok (.aload_n 0, 1) := by decide +kernel
theorem dC_Prg_addNear_15 : decode cC_Prg_addNear 15 = .ok (.getfield 58, 3) := by decide +kernel
theorem dC_Prg_addNear_18 : decode cC_Prg_addNear 18 = .ok (.iload_n 1, 1) := by decide +kernel
theorem dC_Prg_addNear_19 : decode cC_Prg_addNear 19 = .ok (.iaload, 1) := by decide +kernel
theorem dC_Prg_addNear_20 : decode cC_Prg_addNear 20 = .ok (.invokevirtual 102, 3) := by decide +kernel
theorem dC_Prg_addNear_23 : decode cC_Prg_addNear 23 = .ok (.aload_n 0, 1) := by decide +kernel
theorem dC_Prg_addNear_24 : decode cC_Prg_addNear 24 = .ok (.getfield 22, 3) := by decide +kernel
theorem dC_Prg_addNear_27 : decode cC_Prg_addNear 27 = .ok (.putfield 86, 3) := by decide +kernel
theorem dC_Prg_addNear_30 : decode cC_Prg_addNear 30 = .ok (.aload_n 0, 1) := by decide +kernel
theorem dC_Prg_addNear_31 : decode cC_Prg_addNear 31 = .ok (.getfield 58, 3) := by decide +kernel
theorem dC_Prg_addNear_34 : decode cC_Prg_addNear 34 = .ok (.iload_n 1, 1) := by decide +kernel
theorem dC_Prg_addNear_35 : decode cC_Prg_addNear 35 = .ok (.aload_n 0, 1) := by decide +kernel
theorem dC_Prg_addNear_36 : decode cC_Prg_addNear 36 = .ok (.getfield 22, 3) := by decide +kernel
theorem dC_Prg_addNear_39 : decode cC_Prg_addNear 39 = .ok (.iastore, 1) := by decide +kernel
theorem dC_Prg_addNear_40 : decode cC_Prg_addNear 40 = .ok (.aload_n 0, 1) := by decide +kernel
theorem dC_Prg_addNear_41 : decode cC_Prg_addNear 41 = .ok (.iconst (1), 1) := by decide +kernel
theorem dC_Prg_addNear_42 : decode cC_Prg_addNear 42 = .ok (.iconst (-1), 1) := by decide +kernel
theorem dC_Prg_addNear_43 : decode cC_Prg_addNear 43 = .ok (.iconst (0), 1) := by decide +kernel
theorem dC_Prg_addNear_44 : decode cC_Prg_addNear 44 = .ok (.invokevirtual 66, 3) := by decide +kernel
theorem dC_Prg_addNear_47 : decode cC_Prg_addNear 47 = .ok (.pop, 1) := by decide +kernel
theorem dC_Prg_addNear_48 : decode cC_Prg_addNear 48 = .ok (.return_, 1) := by decide +kernel
abbrev cC_Prg_empty : ByteArray := prog_10_method_2_code
def yC_Prg_empty : MethodName := ⟨R_Prg, "empty", "()V"⟩
theorem dC_Prg_empty_0 : decode cC_Prg_empty 0 = .ok (.aload_n 0, 1) := by decide +kernel
theorem dC_Prg_empty_1 : decode cC_Prg_empty 1 = .ok (.getfield 12, 3) := by decide +kernel
theorem dC_Prg_empty_4 : decode cC_Prg_empty 4 = .ok (.iconst (0), 1) := by decide +kernel
theorem dC_Prg_empty_5 : decode cC_Prg_empty 5 = .ok (.invokevirtual 62, 3) := by decide +kernel
theorem dC_Prg_empty_8 : decode cC_Prg_empty 8 = .ok (.aload_n 0, 1) := by decide +kernel
theorem dC_Prg_empty_9 : decode cC_Prg_empty 9 = .ok (.iconst (0), 1) := by decide +kernel
theorem dC_Prg_empty_10 : decode cC_Prg_empty 10 = .ok (.putfield 18, 3) := by decide +kernel
theorem dC_Prg_empty_13 : decode cC_Prg_empty 13 = .ok (.aload_n 0, 1) := by decide +kernel
theorem dC_Prg_empty_14 : decode cC_Prg_empty 14 = .ok (.iconst (0), 1) := by decide +kernel
theorem dC_Prg_empty_15 : decode cC_Prg_empty 15 = .ok (.putfield 22, 3) := by decide +kernel
theorem dC_Prg_empty_18 : decode cC_Prg_empty 18 = .ok (.aload_n 0, 1) := by decide +kernel
theorem dC_Prg_empty_19 : decode cC_Prg_empty 19 = .ok (.iconst (0), 1) := by decide +kernel
theorem dC_Prg_empty_20 : decode cC_Prg_empty 20 = .ok (.putfield 31, 3) := by decide +kernel
theorem dC_Prg_empty_23 : decode cC_Prg_empty 23 = .ok (.aload_n 0, 1) := by decide +kernel
theorem dC_Prg_empty_24 : decode cC_Prg_empty 24 = .ok (.iconst (0), 1) := by decide +kernel
theorem dC_Prg_empty_25 : decode cC_Prg_empty 25 = .ok (.putfield 34, 3) := by decide +kernel
theorem dC_Prg_empty_28 : decode cC_Prg_empty 28 = .ok (.aload_n 0, 1) := by decide +kernel
theorem dC_Prg_empty_29 : decode cC_Prg_empty 29 = .ok (.iconst (0), 1) := by decide +kernel
theorem dC_Prg_empty_30 : decode cC_Prg_empty 30 = .ok (.putfield 38, 3) := by decide +kernel
theorem dC_Prg_empty_33 : decode cC_Prg_empty 33 = .ok (.iconst (0), 1) := by decide +kernel
theorem dC_Prg_empty_34 : decode cC_Prg_empty 34 = .ok (.istore_n 1, 1) := by decide +kernel
theorem dC_Prg_empty_35 : decode cC_Prg_empty 35 = .ok (.iload_n 1, 1) := by decide +kernel
theorem dC_Prg_empty_36 : decode cC_Prg_empty 36 = .ok (.aload_n 0, 1) := by decide +kernel
theorem dC_Prg_empty_37 : decode cC_Prg_empty 37 = .ok (.getfield 58, 3) := by decide +kernel
theorem dC_Prg_empty_40 : decode cC_Prg_empty 40 = .ok (.arraylength, 1) := by decide +kernel
theorem dC_Prg_empty_41 : decode cC_Prg_empty 41 = .ok (.if_icmp .ge (27), 3) := by decide +kernel
theorem dC_Prg_empty_44 : decode cC_Prg_empty 44 = .ok (.aload_n 0, 1) := by decide +kernel
theorem dC_Prg_empty_45 : decode cC_Prg_empty 45 = .ok (.getfield 58, 3) := by decide +kernel
theorem dC_Prg_empty_48 : decode cC_Prg_empty 48 = .ok (.iload_n 1, 1) := by decide +kernel
theorem dC_Prg_empty_49 : decode cC_Prg_empty 49 = .ok (.aload_n 0, 1) := by decide +kernel
theorem dC_Prg_empty_50 : decode cC_Prg_empty 50 = .ok (.getfield 22, 3) := by decide +kernel
theorem dC_Prg_empty_53 : decode cC_Prg_empty 53 = .ok (.iastore, 1) := by decide +kernel
theorem dC_Prg_empty_54 : decode cC_Prg_empty 54 = .ok (.aload_n 0, 1) := by decide +kernel
theorem dC_Prg_empty_55 : decode cC_Prg_empty 55 = .ok (.iconst (1), 1) := by decide +kernel
theorem dC_Prg_empty_56 : decode cC_Prg_empty 56 = .ok (.iconst (-1), 1) := by decide +kernel
theorem dC_Prg_empty_57 : decode cC_Prg_empty 57 = .ok (.iconst (0), 1) := by decide +kernel
theorem dC_Prg_empty_58 : decode cC_Prg_empty 58 = .ok (.invokevirtual 66, 3) := by decide +kernel
theorem dC_Prg_empty_61 : decode cC_Prg_empty 61 = .ok (.pop, 1) := by decide +kernel
theorem dC_Prg_empty_62 : decode cC_Prg_empty 62 = .ok (.iinc 1 (1), 3) := by decide +kernel
theorem dC_Prg_empty_65 : decode cC_Prg_empty 65 = .ok (.goto (-30), 3) := by decide +kernel
theorem dC_Prg_empty_68 : decode cC_Prg_empty 68 = .ok (.return_, 1) := by decide +kernel
theorem gC_Prg_62 : GoodIn lw_gd (wsV R_Prg 62 R_Row yC_Row_cut (.code yC_Row_cut cC_Row_cut 2 none :: lw_gd)) := lw_GV qc_182 qc_919 qc_180 qc_181 qc_2
theorem gC_Prg_66 : GoodIn lw_gd (wsV R_Prg 66 R_Prg yC_Prg_add (.code yC_Prg_add cC_Prg_add 5 (some (.object "LineAssembler$Item")) :: lw_gd)) := lw_GV qc_923 qc_920 qc_921 qc_922 qc_14
theorem gL_Prg_74 : GoodIn lw_gd (wsV R_Prg 74 R_Lst yC_Ladd (.code yC_Ladd cC_Ladd 2 (some .boolean) :: lw_gd)) := lw_GV qc_931 qc_928 qc_929 qc_930 qc_17
section
variable {p : Program} {l : Launch} {e : Env} {s : State} {m : MethodId} {args : Array Value} {below : List Frame} {meth : Method} {c : Code} {D : va_G} {dA : Nat → ClassId} {z : Nat → Nat} {o b i : Nat → Nat} {A : Nat → Prop}
def C_Prg_add_29 (x1 : Int32) (x2 : Int32) (x3 : Int32) (sP : CS) (sI : CS) : Option ((Nat × (CS × CS)) × (Nat × Nat)) :=
  cr (C_Lst_get (sP.1 1) sI) (fun r1 => gd (decide (r1 < sI.2.2 0 + 1)) (bnd (cF sP 1 ((sP.1 1) + (1 : Int32))) (fun sP3 => gd (decide (r1 < sI.2.2 0 + 1)) (bnd (cA sI r1 0 (sP3.1 4)) (fun sI5 => gd (decide (r1 < sI5.2.2 0 + 1)) (gd (isB (sP3.1 5)) (bnd (cA sI5 r1 1 (sP3.1 5)) (fun sI8 => gd (decide (r1 < sI8.2.2 0 + 1)) (bnd (cA sI8 r1 2 x1) (fun sI10 => gd (decide (r1 < sI10.2.2 0 + 1)) (bnd (cA sI10 r1 3 x2) (fun sI12 => gd (decide (r1 < sI12.2.2 0 + 1)) (bnd (cA sI12 r1 4 x3) (fun sI14 => gd (decide (r1 < sI14.2.2 0 + 1)) (bnd (cA sI14 r1 5 (0 : Int32)) (fun sI16 => gd (decide (r1 < sI16.2.2 0 + 1)) (bnd (cA sI16 r1 6 (sP3.1 6)) (fun sI18 => gd (decide (r1 < sI18.2.2 0 + 1)) (bnd (cA sI18 r1 7 (0 : Int32)) (fun sI20 => gd (decide (r1 < sI20.2.2 0 + 1)) (bnd (cA sI20 r1 8 (0 : Int32)) (fun sI22 => some ((r1, (sP3, sI22)), (0, 0))))))))))))))))))))))))
set_option maxHeartbeats 4000000 in
set_option maxRecDepth 100000 in
theorem bC_Prg_add_29  {r : Nat} {u : CS × CS} {DC DS : Nat} (C : CxC R_Prg p s m args meth c cC_Prg_add 5 (some (.object "LineAssembler$Item")) D dA (zz o) A) (x1 : Int32) (x2 : Int32) (x3 : Int32) (sP : CS) (sI : CS) (dc ds kc ks : Nat) (hM : C_Prg_add_29  x1 x2 x3 sP sI = some ((r, u), (dc, ds))) (hdc : kc + dc ≤ DC) (hds : ks + ds ≤ DS) (b i : Nat → Nat) (H : Heap) (locs : List Loc) (hW : WdC D A s (w_Prg dA o b i sP sI) H locs) (ls : Array Slot) (hl : lv_has ls 5 [(0, .ref (o 64)), (1, .int x1), (2, .int x2), (3, .int x3)]) : W p l e (rmC 7 310 DC DS) s m args below meth c H locs kc ks (MQ below (QC D A (fun Ws' ov => ∃ b' i' : Nat → Nat, Ws' = (w_Prg dA o b' i' u.1 u.2) ∧ ov = (some (.ref (pa o i' r))))) args s DC DS A) (F0 m 29 ls []) := by
  have hx := C.1.1
  have hb := C.1.2.1
  have hown := C.1.2.2.2.2.1
  have hT := C.1.2.2.2.2.2.1
  unfold C_Prg_add_29 at hM
  refine lv_aload_n (pc := 29) hx hb dC_Prg_add_29 rfl (lv_at hl 0 rfl) ?_
  refine x_getC (pc := 30) C hW 0 rfl (ci := 5) rfl i_Prg 9 (by decide) qc_404 rfl rfl dC_Prg_add_30 ?_
  refine lv_aload_n (pc := 33) hx hb dC_Prg_add_33 rfl (lv_at hl 0 rfl) ?_
  refine x_getC (pc := 34) C hW 0 rfl (ci := 5) rfl i_Prg 2 (by decide) qc_390 rfl rfl dC_Prg_add_34 ?_
  obtain ⟨r1, hr1, hM⟩ := cr_some hM
  refine x_callQ (pc := 37) (n' := 7) (ov := some (.ref (pa o i r1))) C hW (kC_Lst_get l D dA (zz o) o b i (sP.1 1) sI hr1) [4, 5, 0, 1, 2, 3, 6] rfl (by decide +kernel) rfl (ci := 11) rfl (q0 := 4) rfl gL_Prg_77 ⟨rfl, by decide, by decide, by decide +kernel⟩ ⟨Nat.le_of_ble_eq_true rfl, Nat.le_of_ble_eq_true rfl⟩ ⟨show _ ≤ DC by omega, show _ ≤ DS by omega⟩ (As := [.int (sP.1 1)]) (n := 1) rfl hl.1 rfl (Nat.le_of_ble_eq_true rfl) dC_Prg_add_37 ?_
  obtain ⟨hg2, hM⟩ := gd_some hM
  refine x_castI (pc := 40) C hW 6 rfl (of_decide_eq_true hg2) qc_330 dC_Prg_add_40 ?_
  refine lv_astore (pc := 43) (lv' := [(4, .ref (pa o i r1)), (0, .ref (o 64)), (1, .int x1), (2, .int x2), (3, .int x3)]) hx hb dC_Prg_add_43 hl (by decide) rfl (fun ls hl => ?_)
  refine lv_aload_n (pc := 45) hx hb dC_Prg_add_45 rfl (lv_at hl 1 rfl) ?_
  refine lv_dup (pc := 46) hx hb dC_Prg_add_46 rfl ?_
  refine x_getC (pc := 47) C hW 0 rfl (ci := 5) rfl i_Prg 2 (by decide) qc_390 rfl rfl dC_Prg_add_47 ?_
  refine lv_iconst (pc := 50) (v := 1) hx hb dC_Prg_add_50 (by decide) ?_
  refine lv_iadd (pc := 51) hx hb dC_Prg_add_51 ?_
  refine x_putC (pc := 52) (ty := .int) (Ws' := (w_Prg dA o b i (cF sP 1 ((sP.1 1) + (1 : Int32))) sI)) C hW 0 rfl (ci := 5) rfl i_Prg tok_Prg n_Prg 2 (by decide) qc_390 rfl rfl (by decide +kernel) rfl rfl (Nat.le_of_ble_eq_true rfl) rfl dC_Prg_add_52 (fun H locs hW => ?_)
  obtain ⟨sP3, esP3, hM⟩ := bnd_some hM
  rw [← esP3] at hW
  refine lv_aload (pc := 55) hx hb dC_Prg_add_55 (lv_at hl 0 rfl) ?_
  refine lv_aload_n (pc := 57) hx hb dC_Prg_add_57 rfl (lv_at hl 1 rfl) ?_
  refine x_getC (pc := 58) C hW 0 rfl (ci := 5) rfl i_Prg 5 (by decide) qc_397 rfl rfl dC_Prg_add_58 ?_
  obtain ⟨hg4, hM⟩ := gd_some hM
  refine x_putI (pc := 61) (ty := .int) (Ws' := (w_Prg dA o b i sP3 (cA sI r1 0 (sP3.1 4)))) C hW 6 rfl (of_decide_eq_true hg4) 0 (by decide) qc_337 rfl rfl (by decide +kernel) rfl rfl rfl rfl dC_Prg_add_61 (fun H locs hW => ?_)
  obtain ⟨sI5, esI5, hM⟩ := bnd_some hM
  rw [← esI5] at hW
  refine lv_aload (pc := 64) hx hb dC_Prg_add_64 (lv_at hl 0 rfl) ?_
  refine lv_aload_n (pc := 66) hx hb dC_Prg_add_66 rfl (lv_at hl 1 rfl) ?_
  refine x_getC (pc := 67) C hW 0 rfl (ci := 5) rfl i_Prg 6 (by decide) qc_399 rfl rfl dC_Prg_add_67 ?_
  obtain ⟨hg6, hM⟩ := gd_some hM
  obtain ⟨hg7, hM⟩ := gd_some hM
  refine x_putI (pc := 70) (ty := .boolean) (Ws' := (w_Prg dA o b i sP3 (cA sI5 r1 1 (sP3.1 5)))) C hW 6 rfl (of_decide_eq_true hg6) 1 (by decide) qc_340 rfl rfl (by decide +kernel) (isB_n hg7) (isB_f hg7) rfl rfl dC_Prg_add_70 (fun H locs hW => ?_)
  obtain ⟨sI8, esI8, hM⟩ := bnd_some hM
  rw [← esI8] at hW
  refine lv_aload (pc := 73) hx hb dC_Prg_add_73 (lv_at hl 0 rfl) ?_
  refine lv_iload_n (pc := 75) hx hb dC_Prg_add_75 rfl (lv_at hl 2 rfl) ?_
  obtain ⟨hg9, hM⟩ := gd_some hM
  refine x_putI (pc := 76) (ty := .int) (Ws' := (w_Prg dA o b i sP3 (cA sI8 r1 2 x1))) C hW 6 rfl (of_decide_eq_true hg9) 2 (by decide) qc_343 rfl rfl (by decide +kernel) rfl rfl rfl rfl dC_Prg_add_76 (fun H locs hW => ?_)
  obtain ⟨sI10, esI10, hM⟩ := bnd_some hM
  rw [← esI10] at hW
  refine lv_aload (pc := 79) hx hb dC_Prg_add_79 (lv_at hl 0 rfl) ?_
  refine lv_iload_n (pc := 81) hx hb dC_Prg_add_81 rfl (lv_at hl 3 rfl) ?_
  obtain ⟨hg11, hM⟩ := gd_some hM
  refine x_putI (pc := 82) (ty := .int) (Ws' := (w_Prg dA o b i sP3 (cA sI10 r1 3 x2))) C hW 6 rfl (of_decide_eq_true hg11) 3 (by decide) qc_345 rfl rfl (by decide +kernel) rfl rfl rfl rfl dC_Prg_add_82 (fun H locs hW => ?_)
  obtain ⟨sI12, esI12, hM⟩ := bnd_some hM
  rw [← esI12] at hW
  refine lv_aload (pc := 85) hx hb dC_Prg_add_85 (lv_at hl 0 rfl) ?_
  refine lv_iload_n (pc := 87) hx hb dC_Prg_add_87 rfl (lv_at hl 4 rfl) ?_
  obtain ⟨hg13, hM⟩ := gd_some hM
  refine x_putI (pc := 88) (ty := .int) (Ws' := (w_Prg dA o b i sP3 (cA sI12 r1 4 x3))) C hW 6 rfl (of_decide_eq_true hg13) 4 (by decide) qc_351 rfl rfl (by decide +kernel) rfl rfl rfl rfl dC_Prg_add_88 (fun H locs hW => ?_)
  obtain ⟨sI14, esI14, hM⟩ := bnd_some hM
  rw [← esI14] at hW
  refine lv_aload (pc := 91) hx hb dC_Prg_add_91 (lv_at hl 0 rfl) ?_
  refine lv_iconst (pc := 93) (v := 0) hx hb dC_Prg_add_93 (by decide) ?_
  obtain ⟨hg15, hM⟩ := gd_some hM
  refine x_putI (pc := 94) (ty := .int) (Ws' := (w_Prg dA o b i sP3 (cA sI14 r1 5 (0 : Int32)))) C hW 6 rfl (of_decide_eq_true hg15) 5 (by decide) qc_353 rfl rfl (by decide +kernel) rfl rfl rfl rfl dC_Prg_add_94 (fun H locs hW => ?_)
  obtain ⟨sI16, esI16, hM⟩ := bnd_some hM
  rw [← esI16] at hW
  refine lv_aload (pc := 97) hx hb dC_Prg_add_97 (lv_at hl 0 rfl) ?_
  refine lv_aload_n (pc := 99) hx hb dC_Prg_add_99 rfl (lv_at hl 1 rfl) ?_
  refine x_getC (pc := 100) C hW 0 rfl (ci := 5) rfl i_Prg 7 (by decide) qc_401 rfl rfl dC_Prg_add_100 ?_
  obtain ⟨hg17, hM⟩ := gd_some hM
  refine x_putI (pc := 103) (ty := .int) (Ws' := (w_Prg dA o b i sP3 (cA sI16 r1 6 (sP3.1 6)))) C hW 6 rfl (of_decide_eq_true hg17) 6 (by decide) qc_355 rfl rfl (by decide +kernel) rfl rfl rfl rfl dC_Prg_add_103 (fun H locs hW => ?_)
  obtain ⟨sI18, esI18, hM⟩ := bnd_some hM
  rw [← esI18] at hW
  refine lv_aload (pc := 106) hx hb dC_Prg_add_106 (lv_at hl 0 rfl) ?_
  refine lv_iconst (pc := 108) (v := 0) hx hb dC_Prg_add_108 (by decide) ?_
  obtain ⟨hg19, hM⟩ := gd_some hM
  refine x_putI (pc := 109) (ty := .int) (Ws' := (w_Prg dA o b i sP3 (cA sI18 r1 7 (0 : Int32)))) C hW 6 rfl (of_decide_eq_true hg19) 7 (by decide) qc_358 rfl rfl (by decide +kernel) rfl rfl rfl rfl dC_Prg_add_109 (fun H locs hW => ?_)
  obtain ⟨sI20, esI20, hM⟩ := bnd_some hM
  rw [← esI20] at hW
  refine lv_aload (pc := 112) hx hb dC_Prg_add_112 (lv_at hl 0 rfl) ?_
  refine lv_iconst (pc := 114) (v := 0) hx hb dC_Prg_add_114 (by decide) ?_
  obtain ⟨hg21, hM⟩ := gd_some hM
  refine x_putI (pc := 115) (ty := .int) (Ws' := (w_Prg dA o b i sP3 (cA sI20 r1 8 (0 : Int32)))) C hW 6 rfl (of_decide_eq_true hg21) 8 (by decide) qc_362 rfl rfl (by decide +kernel) rfl rfl rfl rfl dC_Prg_add_115 (fun H locs hW => ?_)
  obtain ⟨sI22, esI22, hM⟩ := bnd_some hM
  rw [← esI22] at hW
  refine lv_aload (pc := 118) hx hb dC_Prg_add_118 (lv_at hl 0 rfl) ?_
  obtain ⟨rfl, rfl, rfl, rfl⟩ := sm_q hM
  exact x_retCa (pc := 120) C rfl (Or.inl ⟨_, rfl⟩) hW ⟨_, _, rfl, rfl⟩ (by omega) (by omega) dC_Prg_add_120
def C_Prg_add (x1 : Int32) (x2 : Int32) (x3 : Int32) (sP : CS) (sI : CS) : Option ((Nat × (CS × CS)) × (Nat × Nat)) :=
  (if (sP.1 1) < (nI (sI.2.2 0)) then C_Prg_add_29  x1 x2 x3 sP sI else ct (C_Lst_new sI) (fun r2 uI3 => C_Prg_add_29  x1 x2 x3 sP uI3))
set_option maxHeartbeats 4000000 in
set_option maxRecDepth 100000 in
theorem bC_Prg_add_0  {r : Nat} {u : CS × CS} {DC DS : Nat} (C : CxC R_Prg p s m args meth c cC_Prg_add 5 (some (.object "LineAssembler$Item")) D dA (zz o) A) (x1 : Int32) (x2 : Int32) (x3 : Int32) (sP : CS) (sI : CS) (dc ds kc ks : Nat) (hM : C_Prg_add  x1 x2 x3 sP sI = some ((r, u), (dc, ds))) (hdc : kc + dc ≤ DC) (hds : ks + ds ≤ DS) (b i : Nat → Nat) (H : Heap) (locs : List Loc) (hW : WdC D A s (w_Prg dA o b i sP sI) H locs) (ls : Array Slot) (hl : lv_has ls 5 [(0, .ref (o 64)), (1, .int x1), (2, .int x2), (3, .int x3)]) : W p l e (rmC 7 310 DC DS) s m args below meth c H locs kc ks (MQ below (QC D A (fun Ws' ov => ∃ b' i' : Nat → Nat, Ws' = (w_Prg dA o b' i' u.1 u.2) ∧ ov = (some (.ref (pa o i' r))))) args s DC DS A) (F0 m 0 ls []) := by
  have hx := C.1.1
  have hb := C.1.2.1
  have hown := C.1.2.2.2.2.1
  have hT := C.1.2.2.2.2.2.1
  unfold C_Prg_add at hM
  refine lv_aload_n (pc := 0) hx hb dC_Prg_add_0 rfl (lv_at hl 0 rfl) ?_
  refine x_getC (pc := 1) C hW 0 rfl (ci := 5) rfl i_Prg 2 (by decide) qc_390 rfl rfl dC_Prg_add_1 ?_
  refine lv_aload_n (pc := 4) hx hb dC_Prg_add_4 rfl (lv_at hl 0 rfl) ?_
  refine x_getC (pc := 5) C hW 0 rfl (ci := 5) rfl i_Prg 9 (by decide) qc_404 rfl rfl dC_Prg_add_5 ?_
  refine x_callQ (pc := 8) (n' := 7) (ov := some (.int (nI (sI.2.2 0)))) C hW (kC_Lsize l D dA (zz o) (o 66) (lref o b sI) (nI (sI.2.2 0)) (sI.1 0)) [4, 0, 1, 2, 3, 5, 6] rfl (by decide +kernel) rfl (ci := 11) rfl (q0 := 4) rfl gL_Prg_70 ⟨rfl, by decide, by decide, by decide +kernel⟩ ⟨Nat.le_of_ble_eq_true rfl, Nat.le_of_ble_eq_true rfl⟩ ⟨show _ ≤ DC by omega, show _ ≤ DS by omega⟩ (As := []) (n := 0) rfl hl.1 rfl (Nat.le_of_ble_eq_true rfl) dC_Prg_add_8 ?_
  refine lv_icmp_lt (pc := 11) (tgt := 29) hx hb dC_Prg_add_11 (by decide) (fun hc => ?_) (fun hc => ?_)
  · replace hM := it_t hc hM
    exact bC_Prg_add_29  C  _ _ _ _ _ _ _ _ _ hM (by omega) (by omega) _ _ _ _ hW _ (lv_sub hl [0, 1, 2, 3] rfl)
  · replace hM := it_f hc hM
    refine lv_aload_n (pc := 14) hx hb dC_Prg_add_14 rfl (lv_at hl 0 rfl) ?_
    refine x_getC (pc := 15) C hW 0 rfl (ci := 5) rfl i_Prg 9 (by decide) qc_404 rfl rfl dC_Prg_add_15 ?_
    obtain ⟨r2, uI3, da4, ea5, db6, eb7, hr2, hM, hqda4, hpda4⟩ := ct_some hM
    obtain ⟨dz, ez, hz, rfl, rfl⟩ := new_some hr2
    refine x_newC (pc := 18) (ci := 4) (vc := (R_Itm, F_Itm, 9)) (fs := itf (fun _ => 0)) (N := 9) C hW rfl rfl i_Itm tok_Itm qc_330 qc_331 qc_18 def_Itm (show _ + 1 ≤ DC by omega) (show _ + 9 ≤ DS by omega) dC_Prg_add_18 (fun q1 H hW => ?_)
    refine lv_dup (pc := 21) hx hb dC_Prg_add_21 rfl ?_
    refine x_callN (pc := 22) (n' := 8) (host := "LineAssembler") C hW (kC_Itm_init l D dA (zz o) q1) [7, 0, 1, 2, 3, 4, 5, 6] rfl (by decide +kernel) rfl qc_334 ex_m5 qc_333 qc_18 rfl ⟨by decide, by decide, by decide +kernel⟩ ⟨Nat.le_of_ble_eq_true rfl, Nat.le_of_ble_eq_true rfl⟩ ⟨show _ + 0 ≤ DC by omega, show _ + 0 ≤ DS by omega⟩ (As := []) (n := 0) rfl hl.1 rfl (Nat.le_of_ble_eq_true rfl) dC_Prg_add_22 (fun Wc' ov H locs hPo hWn => ?_)
    obtain ⟨rfl, rfl⟩ := hPo
    have hW := hWn ((w_Prg dA o b i sP sI) ++ [[(q1, .inr (4, itf (fun _ => 0)))]]) rfl rfl
    have hW := hW.eqf (Ws' := c_Prg dA o b i sP ++ [lobj (o 66) (lref o b sI) (nI (sI.2.2 0)) (sI.1 0), larr dA b i sI, pool o i sI ++ [(q1, .inr (4, itf (fun _ => 0)))]]) (by simp)
    refine x_callC (pc := 25) (n' := 7) C hW (kC_Lst_add l D dA o b i q1 sI hz) [4, 5, 6, 0, 1, 2, 3] rfl (by decide +kernel) rfl (ci := 11) rfl (q0 := 4) rfl gL_Prg_74 ⟨rfl, by decide, by decide, by decide +kernel⟩ ⟨Nat.le_of_ble_eq_true rfl, Nat.le_of_ble_eq_true rfl⟩ ⟨show _ + dz ≤ DC by omega, show _ + ez ≤ DS by omega⟩ (As := [.ref q1]) (n := 1) rfl hl.1 rfl (Nat.le_of_ble_eq_true rfl) dC_Prg_add_25 (fun Wc' ov H locs hPo hWn => ?_)
    obtain ⟨b8, i, rfl, rfl⟩ := hPo
    have hW := hWn (w_Prg dA o (uN b 66 (b8 66)) i sP uI3) rfl rfl
    generalize uN b 66 (b8 66) = b at hW
    refine lv_pop (pc := 28) hx hb dC_Prg_add_28 rfl ?_
    exact bC_Prg_add_29  C  _ _ _ _ _ _ _ _ _ hM (by omega) (by omega) _ _ _ _ hW _ (lv_sub hl [0, 1, 2, 3] rfl)
theorem kC_Prg_add (l : Launch) (D : va_G) (dA : Nat → ClassId) (o b i : Nat → Nat) (x1 : Int32) (x2 : Int32) (x3 : Int32) (sP : CS) (sI : CS) {r : Nat} {u : CS × CS} {dc ds : Nat} (hM : C_Prg_add x1 x2 x3 sP sI = some ((r, u), (dc, ds))) : KC l D dA (zz o) yC_Prg_add cC_Prg_add 5 (some (.object "LineAssembler$Item")) 7 310 dc ds (w_Prg dA o b i sP sI) [.ref (o 64), .int x1, .int x2, .int x3] (fun Ws' ov => ∃ b' i' : Nat → Nat, Ws' = (w_Prg dA o b' i' u.1 u.2) ∧ ov = (some (.ref (pa o i' r)))) := x_enterC (by decide +kernel) (Nat.le_of_ble_eq_true rfl) (fun p e s m args below meth c A C _ hW ls hl => bC_Prg_add_0 C x1 x2 x3 sP sI dc ds 0 0 hM (by omega) (by omega) b i s.heap [] hW ls hl)
def C_Prg_addNear_48  (sP : CS) (sI : CS) : Option ((Int32 × (CS × CS)) × (Nat × Nat)) :=
  some (((0 : Int32), (sP, sI)), (0, 0))
set_option maxHeartbeats 4000000 in
set_option maxRecDepth 100000 in
theorem bC_Prg_addNear_48  {r : Int32} {u : CS × CS} {DC DS : Nat} (C : CxC R_Prg p s m args meth c cC_Prg_addNear 2 none D dA (zz o) A)  (sP : CS) (sI : CS) (dc ds kc ks : Nat) (hM : C_Prg_addNear_48   sP sI = some ((r, u), (dc, ds))) (hdc : kc + dc ≤ DC) (hds : ks + ds ≤ DS) (b i : Nat → Nat) (H : Heap) (locs : List Loc) (hW : WdC D A s (w_Prg dA o b i sP sI) H locs) (ls : Array Slot) (hl : lv_has ls 2 []) : W p l e (rmC 8 334 DC DS) s m args below meth c H locs kc ks (MQ below (QC D A (fun Ws' ov => ∃ b' i' : Nat → Nat, Ws' = (w_Prg dA o b' i' u.1 u.2) ∧ ov = none)) args s DC DS A) (F0 m 48 ls []) := by
  have hx := C.1.1
  have hb := C.1.2.1
  have hown := C.1.2.2.2.2.1
  have hT := C.1.2.2.2.2.2.1
  unfold C_Prg_addNear_48 at hM
  obtain ⟨rfl, rfl, rfl, rfl⟩ := sm_q hM
  exact x_retCv (pc := 48) C rfl hW ⟨_, _, rfl, rfl⟩ (by omega) (by omega) dC_Prg_addNear_48
def C_Prg_addNear (x1 : Int32) (sP : CS) (sI : CS) : Option ((Int32 × (CS × CS)) × (Nat × Nat)) :=
  (if x1 < 0 then C_Prg_addNear_48  sP sI else (if (nI (sP.2.2 20)) ≤ x1 then C_Prg_addNear_48  sP sI else gd (inB x1 (sP.2.2 20)) (cr (C_Prg_find  (sP.2.1 20 x1.toNatClampNeg) sP sI) (fun r2 => gd (decide (r2 < sI.2.2 0 + 1)) (bnd (cA sI r2 3 (sP.1 1)) (fun sI4 => gd (inB x1 (sP.2.2 20)) (bnd (cA sP 20 x1.toNatClampNeg (sP.1 1)) (fun sP6 => ct (C_Prg_add  (1 : Int32) (-1 : Int32) (0 : Int32) sP6 sI4) (fun r7 u8 => C_Prg_addNear_48  u8.1 u8.2)))))))))
set_option maxHeartbeats 4000000 in
set_option maxRecDepth 100000 in
theorem bC_Prg_addNear_0  {r : Int32} {u : CS × CS} {DC DS : Nat} (C : CxC R_Prg p s m args meth c cC_Prg_addNear 2 none D dA (zz o) A) (x1 : Int32) (sP : CS) (sI : CS) (dc ds kc ks : Nat) (hM : C_Prg_addNear  x1 sP sI = some ((r, u), (dc, ds))) (hdc : kc + dc ≤ DC) (hds : ks + ds ≤ DS) (b i : Nat → Nat) (H : Heap) (locs : List Loc) (hW : WdC D A s (w_Prg dA o b i sP sI) H locs) (ls : Array Slot) (hl : lv_has ls 2 [(0, .ref (o 64)), (1, .int x1)]) : W p l e (rmC 8 334 DC DS) s m args below meth c H locs kc ks (MQ below (QC D A (fun Ws' ov => ∃ b' i' : Nat → Nat, Ws' = (w_Prg dA o b' i' u.1 u.2) ∧ ov = none)) args s DC DS A) (F0 m 0 ls []) := by
  have hx := C.1.1
  have hb := C.1.2.1
  have hown := C.1.2.2.2.2.1
  have hT := C.1.2.2.2.2.2.1
  unfold C_Prg_addNear at hM
  refine lv_iload_n (pc := 0) hx hb dC_Prg_addNear_0 rfl (lv_at hl 1 rfl) ?_
  refine lv_if_lt (pc := 1) (tgt := 48) hx hb dC_Prg_addNear_1 (by decide) (fun hc => ?_) (fun hc => ?_)
  · replace hM := it_t hc hM
    exact bC_Prg_addNear_48  C  _ _ _ _ _ _ hM (by omega) (by omega) _ _ _ _ hW _ (lv_sub hl [] rfl)
  · replace hM := it_f hc hM
    refine lv_iload_n (pc := 4) hx hb dC_Prg_addNear_4 rfl (lv_at hl 1 rfl) ?_
    refine lv_aload_n (pc := 5) hx hb dC_Prg_addNear_5 rfl (lv_at hl 0 rfl) ?_
    refine x_getC (pc := 6) C hW 0 rfl (ci := 5) rfl i_Prg 11 (by decide) qc_406 rfl rfl dC_Prg_addNear_6 ?_
    refine x_alenC (pc := 9) C hW 3 rfl dC_Prg_addNear_9 ?_
    refine lv_icmp_ge (pc := 10) (tgt := 48) hx hb dC_Prg_addNear_10 (by decide) (fun hc => ?_) (fun hc => ?_)
    · replace hM := it_t hc hM
      exact bC_Prg_addNear_48  C  _ _ _ _ _ _ hM (by omega) (by omega) _ _ _ _ hW _ (lv_sub hl [] rfl)
    · replace hM := it_f hc hM
      refine lv_aload_n (pc := 13) hx hb dC_Prg_addNear_13 rfl (lv_at hl 0 rfl) ?_
      refine lv_aload_n (pc := 14) hx hb dC_Prg_addNear_14 rfl (lv_at hl 0 rfl) ?_
      refine x_getC (pc := 15) C hW 0 rfl (ci := 5) rfl i_Prg 11 (by decide) qc_406 rfl rfl dC_Prg_addNear_15 ?_
      refine lv_iload_n (pc := 18) hx hb dC_Prg_addNear_18 rfl (lv_at hl 1 rfl) ?_
      obtain ⟨hg1, hM⟩ := gd_some hM
      refine x_ldIC (pc := 19) C hW 3 rfl hg1 dC_Prg_addNear_19 ?_
      obtain ⟨r2, hr2, hM⟩ := cr_some hM
      refine x_callQ (pc := 20) (n' := 7) (ov := some (.ref (pa o i r2))) C hW (kC_Prg_find l D dA o b i  (sP.2.1 20 x1.toNatClampNeg) sP sI hr2) [0, 1, 2, 3, 4, 5, 6] rfl (by decide +kernel) rfl (ci := 5) rfl (q0 := 0) rfl gC_Prg_102 ⟨rfl, by decide, by decide, by decide +kernel⟩ ⟨Nat.le_of_ble_eq_true rfl, Nat.le_of_ble_eq_true rfl⟩ ⟨show _ ≤ DC by omega, show _ ≤ DS by omega⟩ (As := [.int (sP.2.1 20 x1.toNatClampNeg)]) (n := 1) rfl hl.1 rfl (Nat.le_of_ble_eq_true rfl) dC_Prg_addNear_20 ?_
      refine lv_aload_n (pc := 23) hx hb dC_Prg_addNear_23 rfl (lv_at hl 0 rfl) ?_
      refine x_getC (pc := 24) C hW 0 rfl (ci := 5) rfl i_Prg 2 (by decide) qc_390 rfl rfl dC_Prg_addNear_24 ?_
      obtain ⟨hg3, hM⟩ := gd_some hM
      refine x_putI (pc := 27) (ty := .int) (Ws' := (w_Prg dA o b i sP (cA sI r2 3 (sP.1 1)))) C hW 6 rfl (of_decide_eq_true hg3) 3 (by decide) qc_345 rfl rfl (by decide +kernel) rfl rfl rfl rfl dC_Prg_addNear_27 (fun H locs hW => ?_)
      obtain ⟨sI4, esI4, hM⟩ := bnd_some hM
      rw [← esI4] at hW
      refine lv_aload_n (pc := 30) hx hb dC_Prg_addNear_30 rfl (lv_at hl 0 rfl) ?_
      refine x_getC (pc := 31) C hW 0 rfl (ci := 5) rfl i_Prg 11 (by decide) qc_406 rfl rfl dC_Prg_addNear_31 ?_
      refine lv_iload_n (pc := 34) hx hb dC_Prg_addNear_34 rfl (lv_at hl 1 rfl) ?_
      refine lv_aload_n (pc := 35) hx hb dC_Prg_addNear_35 rfl (lv_at hl 0 rfl) ?_
      refine x_getC (pc := 36) C hW 0 rfl (ci := 5) rfl i_Prg 2 (by decide) qc_390 rfl rfl dC_Prg_addNear_36 ?_
      obtain ⟨hg5, hM⟩ := gd_some hM
      refine x_stIC (pc := 39) (Ws' := (w_Prg dA o b i (cA sP 20 x1.toNatClampNeg (sP.1 1)) sI4)) C hW 3 rfl hg5 rfl dC_Prg_addNear_39 (fun H locs hW => ?_)
      obtain ⟨sP6, esP6, hM⟩ := bnd_some hM
      rw [← esP6] at hW
      refine lv_aload_n (pc := 40) hx hb dC_Prg_addNear_40 rfl (lv_at hl 0 rfl) ?_
      refine lv_iconst (pc := 41) (v := 1) hx hb dC_Prg_addNear_41 (by decide) ?_
      refine lv_iconst (pc := 42) (v := -1) hx hb dC_Prg_addNear_42 (by decide) ?_
      refine lv_iconst (pc := 43) (v := 0) hx hb dC_Prg_addNear_43 (by decide) ?_
      obtain ⟨r7, u8, da9, ea10, db11, eb12, hr7, hM, hqda9, hpda9⟩ := ct_some hM
      refine x_callC (pc := 44) (n' := 7) C hW (kC_Prg_add l D dA o b i  (1 : Int32) (-1 : Int32) (0 : Int32) sP6 sI4 hr7) [0, 1, 2, 3, 4, 5, 6] rfl (by decide +kernel) rfl (ci := 5) rfl (q0 := 0) rfl gC_Prg_66 ⟨rfl, by decide, by decide, by decide +kernel⟩ ⟨Nat.le_of_ble_eq_true rfl, Nat.le_of_ble_eq_true rfl⟩ ⟨show _ + da9 ≤ DC by omega, show _ + ea10 ≤ DS by omega⟩ (As := [.int (1 : Int32), .int (-1 : Int32), .int (0 : Int32)]) (n := 3) rfl hl.1 rfl (Nat.le_of_ble_eq_true rfl) dC_Prg_addNear_44 (fun Wc' ov H locs hPo hWn => ?_)
      obtain ⟨b13, i, rfl, rfl⟩ := hPo
      have hW := hWn (w_Prg dA o (mxs [4] b13 b) i u8.1 u8.2) rfl rfl
      generalize mxs [4] b13 b = b at hW
      refine lv_pop (pc := 47) hx hb dC_Prg_addNear_47 rfl ?_
      exact bC_Prg_addNear_48  C  _ _ _ _ _ _ hM (by omega) (by omega) _ _ _ _ hW _ (lv_sub hl [] rfl)
theorem kC_Prg_addNear (l : Launch) (D : va_G) (dA : Nat → ClassId) (o b i : Nat → Nat) (x1 : Int32) (sP : CS) (sI : CS) {r : Int32} {u : CS × CS} {dc ds : Nat} (hM : C_Prg_addNear x1 sP sI = some ((r, u), (dc, ds))) : KC l D dA (zz o) yC_Prg_addNear cC_Prg_addNear 2 none 8 334 dc ds (w_Prg dA o b i sP sI) [.ref (o 64), .int x1] (fun Ws' ov => ∃ b' i' : Nat → Nat, Ws' = (w_Prg dA o b' i' u.1 u.2) ∧ ov = none) := x_enterC (by decide +kernel) (Nat.le_of_ble_eq_true rfl) (fun p e s m args below meth c A C _ hW ls hl => bC_Prg_addNear_0 C x1 sP sI dc ds 0 0 hM (by omega) (by omega) b i s.heap [] hW ls hl)
def C_Prg_empty_35 (N : Nat)  : Nat → Int32 → CS → CS → Option ((Int32 × (CS × CS)) × (Nat × Nat))
  | 0 => fun _ _ _ => none
  | n + 1 => fun x1 sP sI => (if (nI (sP.2.2 20)) ≤ x1 then some (((0 : Int32), (sP, sI)), (0, 0)) else gd (inB x1 (sP.2.2 20)) (bnd (cA sP 20 x1.toNatClampNeg (sP.1 1)) (fun sP2 => ct (C_Prg_add  (1 : Int32) (-1 : Int32) (0 : Int32) sP2 sI) (fun r3 u4 => (C_Prg_empty_35 N  n) (x1 + (1 : Int32)) u4.1 u4.2))))
set_option maxHeartbeats 4000000 in
set_option maxRecDepth 100000 in
theorem bC_Prg_empty_35 (N : Nat)  {r : Int32} {u : CS × CS} {DC DS : Nat} (C : CxC R_Prg p s m args meth c cC_Prg_empty 2 none D dA (zz o) A) : ∀ (n : Nat) (x1 : Int32) (sP : CS) (sI : CS) (dc ds kc ks : Nat) , C_Prg_empty_35 N  n x1 sP sI = some ((r, u), (dc, ds)) → ∀ (hdc : kc + dc ≤ DC) (hds : ks + ds ≤ DS) (b i : Nat → Nat) (H : Heap) (locs : List Loc) (hW : WdC D A s (w_Prg dA o b i sP sI) H locs) (ls : Array Slot) (hl : lv_has ls 2 [(0, .ref (o 64)), (1, .int x1)]), W p l e (rmC 8 334 DC DS) s m args below meth c H locs kc ks (MQ below (QC D A (fun Ws' ov => ∃ b' i' : Nat → Nat, Ws' = (w_Prg dA o b' i' u.1 u.2) ∧ ov = none)) args s DC DS A) (F0 m 35 ls []) := by
  have hx := C.1.1
  have hb := C.1.2.1
  have hown := C.1.2.2.2.2.1
  have hT := C.1.2.2.2.2.2.1
  intro n
  induction n with
  | zero => intro x1 sP sI dc ds kc ks hM; cases hM
  | succ n hrec35 =>
    intro x1 sP sI dc ds kc ks hM hdc hds b i H locs hW ls hl
    rw [C_Prg_empty_35] at hM
    refine lv_iload_n (pc := 35) hx hb dC_Prg_empty_35 rfl (lv_at hl 1 rfl) ?_
    refine lv_aload_n (pc := 36) hx hb dC_Prg_empty_36 rfl (lv_at hl 0 rfl) ?_
    refine x_getC (pc := 37) C hW 0 rfl (ci := 5) rfl i_Prg 11 (by decide) qc_406 rfl rfl dC_Prg_empty_37 ?_
    refine x_alenC (pc := 40) C hW 3 rfl dC_Prg_empty_40 ?_
    refine lv_icmp_ge (pc := 41) (tgt := 68) hx hb dC_Prg_empty_41 (by decide) (fun hc => ?_) (fun hc => ?_)
    · replace hM := it_t hc hM
      obtain ⟨rfl, rfl, rfl, rfl⟩ := sm_q hM
      exact x_retCv (pc := 68) C rfl hW ⟨_, _, rfl, rfl⟩ (by omega) (by omega) dC_Prg_empty_68
    · replace hM := it_f hc hM
      refine lv_aload_n (pc := 44) hx hb dC_Prg_empty_44 rfl (lv_at hl 0 rfl) ?_
      refine x_getC (pc := 45) C hW 0 rfl (ci := 5) rfl i_Prg 11 (by decide) qc_406 rfl rfl dC_Prg_empty_45 ?_
      refine lv_iload_n (pc := 48) hx hb dC_Prg_empty_48 rfl (lv_at hl 1 rfl) ?_
      refine lv_aload_n (pc := 49) hx hb dC_Prg_empty_49 rfl (lv_at hl 0 rfl) ?_
      refine x_getC (pc := 50) C hW 0 rfl (ci := 5) rfl i_Prg 2 (by decide) qc_390 rfl rfl dC_Prg_empty_50 ?_
      obtain ⟨hg1, hM⟩ := gd_some hM
      refine x_stIC (pc := 53) (Ws' := (w_Prg dA o b i (cA sP 20 x1.toNatClampNeg (sP.1 1)) sI)) C hW 3 rfl hg1 rfl dC_Prg_empty_53 (fun H locs hW => ?_)
      obtain ⟨sP2, esP2, hM⟩ := bnd_some hM
      rw [← esP2] at hW
      refine lv_aload_n (pc := 54) hx hb dC_Prg_empty_54 rfl (lv_at hl 0 rfl) ?_
      refine lv_iconst (pc := 55) (v := 1) hx hb dC_Prg_empty_55 (by decide) ?_
      refine lv_iconst (pc := 56) (v := -1) hx hb dC_Prg_empty_56 (by decide) ?_
      refine lv_iconst (pc := 57) (v := 0) hx hb dC_Prg_empty_57 (by decide) ?_
      obtain ⟨r3, u4, da5, ea6, db7, eb8, hr3, hM, hqda5, hpda5⟩ := ct_some hM
      refine x_callC (pc := 58) (n' := 7) C hW (kC_Prg_add l D dA o b i  (1 : Int32) (-1 : Int32) (0 : Int32) sP2 sI hr3) [0, 1, 2, 3, 4, 5, 6] rfl (by decide +kernel) rfl (ci := 5) rfl (q0 := 0) rfl gC_Prg_66 ⟨rfl, by decide, by decide, by decide +kernel⟩ ⟨Nat.le_of_ble_eq_true rfl, Nat.le_of_ble_eq_true rfl⟩ ⟨show _ + da5 ≤ DC by omega, show _ + ea6 ≤ DS by omega⟩ (As := [.int (1 : Int32), .int (-1 : Int32), .int (0 : Int32)]) (n := 3) rfl hl.1 rfl (Nat.le_of_ble_eq_true rfl) dC_Prg_empty_58 (fun Wc' ov H locs hPo hWn => ?_)
      obtain ⟨b9, i, rfl, rfl⟩ := hPo
      have hW := hWn (w_Prg dA o (mxs [4] b9 b) i u4.1 u4.2) rfl rfl
      generalize mxs [4] b9 b = b at hW
      refine lv_pop (pc := 61) hx hb dC_Prg_empty_61 rfl ?_
      refine lv_iinc (pc := 62) (v := x1 + (1 : Int32)) (lv' := [(1, .int (x1 + (1 : Int32))), (0, .ref (o 64))]) hx hb dC_Prg_empty_62 hl (k := 1) rfl rfl (by decide) rfl (fun ls hl => ?_)
      refine lv_goto (pc := 65) (tgt := 35) hx hb dC_Prg_empty_65 (by decide) ?_
      exact hrec35 _ _ _ _ _ _ _ hM (by omega) (by omega) _ _ _ _ hW _ (lv_sub hl [1, 0] rfl)
def C_Prg_empty (N : Nat)  (sP : CS) (sI : CS) : Option ((Int32 × (CS × CS)) × (Nat × Nat)) :=
  cl (C_Row_cut  (0 : Int32) (rg sP 0)) (fun r1 u2 => bnd (rs sP 0 u2) (fun sP3 => bnd (cF sP3 0 (0 : Int32)) (fun sP4 => bnd (cF sP4 1 (0 : Int32)) (fun sP5 => bnd (cF sP5 4 (0 : Int32)) (fun sP6 => bnd (cF sP6 5 (0 : Int32)) (fun sP7 => bnd (cF sP7 6 (0 : Int32)) (fun sP8 => C_Prg_empty_35 N  N (0 : Int32) sP8 sI)))))))
set_option maxHeartbeats 4000000 in
set_option maxRecDepth 100000 in
theorem bC_Prg_empty_0 (N : Nat)  {r : Int32} {u : CS × CS} {DC DS : Nat} (C : CxC R_Prg p s m args meth c cC_Prg_empty 2 none D dA (zz o) A)  (sP : CS) (sI : CS) (dc ds kc ks : Nat) (hM : C_Prg_empty N   sP sI = some ((r, u), (dc, ds))) (hdc : kc + dc ≤ DC) (hds : ks + ds ≤ DS) (b i : Nat → Nat) (H : Heap) (locs : List Loc) (hW : WdC D A s (w_Prg dA o b i sP sI) H locs) (ls : Array Slot) (hl : lv_has ls 2 [(0, .ref (o 64))]) : W p l e (rmC 8 334 DC DS) s m args below meth c H locs kc ks (MQ below (QC D A (fun Ws' ov => ∃ b' i' : Nat → Nat, Ws' = (w_Prg dA o b' i' u.1 u.2) ∧ ov = none)) args s DC DS A) (F0 m 0 ls []) := by
  have hx := C.1.1
  have hb := C.1.2.1
  have hown := C.1.2.2.2.2.1
  have hT := C.1.2.2.2.2.2.1
  unfold C_Prg_empty at hM
  refine lv_aload_n (pc := 0) hx hb dC_Prg_empty_0 rfl (lv_at hl 0 rfl) ?_
  refine x_getC (pc := 1) C hW 0 rfl (ci := 5) rfl i_Prg 0 (by decide) qc_384 rfl rfl dC_Prg_empty_1 ?_
  refine lv_iconst (pc := 4) (v := 0) hx hb dC_Prg_empty_4 (by decide) ?_
  obtain ⟨r1, u2, hr1, hM⟩ := cl_some hM
  refine x_callC (pc := 5) (n' := 7) C hW (kC_Row_cut l D dA (zz o) (fun _ => o 65) (fun _ => b 65)  (0 : Int32) (rg sP 0) hr1) [1, 2, 0, 3, 4, 5, 6] rfl (by decide +kernel) rfl (ci := 1) rfl (q0 := 1) rfl gC_Prg_62 ⟨rfl, by decide, by decide, by decide +kernel⟩ ⟨Nat.le_of_ble_eq_true rfl, Nat.le_of_ble_eq_true rfl⟩ ⟨show _ + 0 ≤ DC by omega, show _ + 0 ≤ DS by omega⟩ (As := [.int (0 : Int32)]) (n := 1) rfl hl.1 rfl (Nat.le_of_ble_eq_true rfl) dC_Prg_empty_5 (fun Wc' ov H locs hPo hWn => ?_)
  obtain ⟨rfl, rfl⟩ := hPo
  have hW := hWn (w_Prg dA o b i (rs sP 0 u2) sI) rfl rfl
  obtain ⟨sP3, esP3, hM⟩ := bnd_some hM
  rw [← esP3] at hW
  refine lv_aload_n (pc := 8) hx hb dC_Prg_empty_8 rfl (lv_at hl 0 rfl) ?_
  refine lv_iconst (pc := 9) (v := 0) hx hb dC_Prg_empty_9 (by decide) ?_
  refine x_putC (pc := 10) (ty := .int) (Ws' := (w_Prg dA o b i (cF sP3 0 (0 : Int32)) sI)) C hW 0 rfl (ci := 5) rfl i_Prg tok_Prg n_Prg 1 (by decide) qc_387 rfl rfl (by decide +kernel) rfl rfl (Nat.le_of_ble_eq_true rfl) rfl dC_Prg_empty_10 (fun H locs hW => ?_)
  obtain ⟨sP4, esP4, hM⟩ := bnd_some hM
  rw [← esP4] at hW
  refine lv_aload_n (pc := 13) hx hb dC_Prg_empty_13 rfl (lv_at hl 0 rfl) ?_
  refine lv_iconst (pc := 14) (v := 0) hx hb dC_Prg_empty_14 (by decide) ?_
  refine x_putC (pc := 15) (ty := .int) (Ws' := (w_Prg dA o b i (cF sP4 1 (0 : Int32)) sI)) C hW 0 rfl (ci := 5) rfl i_Prg tok_Prg n_Prg 2 (by decide) qc_390 rfl rfl (by decide +kernel) rfl rfl (Nat.le_of_ble_eq_true rfl) rfl dC_Prg_empty_15 (fun H locs hW => ?_)
  obtain ⟨sP5, esP5, hM⟩ := bnd_some hM
  rw [← esP5] at hW
  refine lv_aload_n (pc := 18) hx hb dC_Prg_empty_18 rfl (lv_at hl 0 rfl) ?_
  refine lv_iconst (pc := 19) (v := 0) hx hb dC_Prg_empty_19 (by decide) ?_
  refine x_putC (pc := 20) (ty := .int) (Ws' := (w_Prg dA o b i (cF sP5 4 (0 : Int32)) sI)) C hW 0 rfl (ci := 5) rfl i_Prg tok_Prg n_Prg 5 (by decide) qc_397 rfl rfl (by decide +kernel) rfl rfl (Nat.le_of_ble_eq_true rfl) rfl dC_Prg_empty_20 (fun H locs hW => ?_)
  obtain ⟨sP6, esP6, hM⟩ := bnd_some hM
  rw [← esP6] at hW
  refine lv_aload_n (pc := 23) hx hb dC_Prg_empty_23 rfl (lv_at hl 0 rfl) ?_
  refine lv_iconst (pc := 24) (v := 0) hx hb dC_Prg_empty_24 (by decide) ?_
  refine x_putC (pc := 25) (ty := .boolean) (Ws' := (w_Prg dA o b i (cF sP6 5 (0 : Int32)) sI)) C hW 0 rfl (ci := 5) rfl i_Prg tok_Prg n_Prg 6 (by decide) qc_399 rfl rfl (by decide +kernel) rfl rfl (Nat.le_of_ble_eq_true rfl) rfl dC_Prg_empty_25 (fun H locs hW => ?_)
  obtain ⟨sP7, esP7, hM⟩ := bnd_some hM
  rw [← esP7] at hW
  refine lv_aload_n (pc := 28) hx hb dC_Prg_empty_28 rfl (lv_at hl 0 rfl) ?_
  refine lv_iconst (pc := 29) (v := 0) hx hb dC_Prg_empty_29 (by decide) ?_
  refine x_putC (pc := 30) (ty := .int) (Ws' := (w_Prg dA o b i (cF sP7 6 (0 : Int32)) sI)) C hW 0 rfl (ci := 5) rfl i_Prg tok_Prg n_Prg 7 (by decide) qc_401 rfl rfl (by decide +kernel) rfl rfl (Nat.le_of_ble_eq_true rfl) rfl dC_Prg_empty_30 (fun H locs hW => ?_)
  obtain ⟨sP8, esP8, hM⟩ := bnd_some hM
  rw [← esP8] at hW
  refine lv_iconst (pc := 33) (v := 0) hx hb dC_Prg_empty_33 (by decide) ?_
  refine lv_istore_n (pc := 34) (lv' := [(1, .int (0 : Int32)), (0, .ref (o 64))]) hx hb dC_Prg_empty_34 rfl hl (by decide) rfl (fun ls hl => ?_)
  exact bC_Prg_empty_35 N  C  N _ _ _ _ _ _ _ hM (by omega) (by omega) _ _ _ _ hW _ (lv_sub hl [1, 0] rfl)
theorem kC_Prg_empty (l : Launch) (D : va_G) (dA : Nat → ClassId) (o b i : Nat → Nat) (N : Nat)  (sP : CS) (sI : CS) {r : Int32} {u : CS × CS} {dc ds : Nat} (hM : C_Prg_empty N  sP sI = some ((r, u), (dc, ds))) : KC l D dA (zz o) yC_Prg_empty cC_Prg_empty 2 none 8 334 dc ds (w_Prg dA o b i sP sI) [.ref (o 64)] (fun Ws' ov => ∃ b' i' : Nat → Nat, Ws' = (w_Prg dA o b' i' u.1 u.2) ∧ ov = none) := x_enterC (by decide +kernel) (Nat.le_of_ble_eq_true rfl) (fun p e s m args below meth c A C _ hW ls hl => bC_Prg_empty_0 N C  sP sI dc ds 0 0 hM (by omega) (by omega) b i s.heap [] hW ls hl)
end
