theorem qc_30 : (Jvm.Cond.initialized "jdk/internal/util/ArraysSupport") ∈ lw_gd := uc_0 (List.mem_of_getElem? (i := 30) (by decide +kernel)) (by decide +kernel)
theorem qc_316 : (Jvm.Cond.fieldLink "java/util/ArrayList" (39 : Nat) "java/util/ArrayList" "DEFAULTCAPACITY_EMPTY_ELEMENTDATA" "[Ljava/lang/Object;") ∈ lw_gd := uc_1 (List.mem_of_getElem? (i := 76) (by decide +kernel)) (by decide +kernel)
theorem qc_321 : (Jvm.Cond.fieldLink "java/util/ArrayList" (63 : Nat) "java/util/ArrayList" "modCount" "I") ∈ lw_gd := uc_1 (List.mem_of_getElem? (i := 81) (by decide +kernel)) (by decide +kernel)
theorem qc_322 : (Jvm.Cond.sameField "java/util/ArrayList" "java/util/AbstractList" "modCount" "I") ∈ lw_gd := uc_1 (List.mem_of_getElem? (i := 82) (by decide +kernel)) (by decide +kernel)
theorem qc_710 : (Jvm.Cond.static ({ cls := "jdk/internal/util/ArraysSupport", name := "newLength", desc := "(III)I" } : Jvm.MethodName)) ∈ lw_gd := uc_2 (List.mem_of_getElem? (i := 230) (by decide +kernel)) (by decide +kernel)
theorem qc_711 : (Jvm.Cond.code ({ cls := "jdk/internal/util/ArraysSupport", name := "newLength", desc := "(III)I" } : Jvm.MethodName) prog_44_method_27_code (4 : Nat) (Option.some Jvm.ClassFile.FieldType.int)) ∈ lw_gd := uc_2 (List.mem_of_getElem? (i := 231) (by decide +kernel)) (by decide +kernel)
theorem qc_932 : (Jvm.Cond.methodLink "java/util/ArrayList" (131 : Nat) ({ cls := "java/util/ArrayList", name := "add", desc := "(Ljava/lang/Object;[Ljava/lang/Object;I)V" } : Jvm.MethodName)) ∈ lw_gd := uc_3 (List.mem_of_getElem? (i := 212) (by decide +kernel)) (by decide +kernel)
theorem qc_934 : (Jvm.Cond.instanceMethod ({ cls := "java/util/ArrayList", name := "add", desc := "(Ljava/lang/Object;[Ljava/lang/Object;I)V" } : Jvm.MethodName)) ∈ lw_gd := uc_3 (List.mem_of_getElem? (i := 214) (by decide +kernel)) (by decide +kernel)
theorem qc_935 : (Jvm.Cond.code ({ cls := "java/util/ArrayList", name := "add", desc := "(Ljava/lang/Object;[Ljava/lang/Object;I)V" } : Jvm.MethodName) prog_37_method_24_code (4 : Nat) (Option.none : Option Jvm.ClassFile.FieldType)) ∈ lw_gd := uc_3 (List.mem_of_getElem? (i := 215) (by decide +kernel)) (by decide +kernel)
theorem qc_936 : (Jvm.Cond.methodLink "java/util/ArrayList" (129 : Nat) ({ cls := "java/util/ArrayList", name := "grow", desc := "()[Ljava/lang/Object;" } : Jvm.MethodName)) ∈ lw_gd := uc_3 (List.mem_of_getElem? (i := 216) (by decide +kernel)) (by decide +kernel)
theorem qc_938 : (Jvm.Cond.instanceMethod ({ cls := "java/util/ArrayList", name := "grow", desc := "()[Ljava/lang/Object;" } : Jvm.MethodName)) ∈ lw_gd := uc_3 (List.mem_of_getElem? (i := 218) (by decide +kernel)) (by decide +kernel)
theorem qc_939 : (Jvm.Cond.code ({ cls := "java/util/ArrayList", name := "grow", desc := "()[Ljava/lang/Object;" } : Jvm.MethodName) prog_37_method_7_code (1 : Nat) (Option.some (Jvm.ClassFile.FieldType.array (Jvm.ClassFile.FieldType.object "java/lang/Object")))) ∈ lw_gd := uc_3 (List.mem_of_getElem? (i := 219) (by decide +kernel)) (by decide +kernel)
theorem qc_940 : (Jvm.Cond.methodLink "java/util/ArrayList" (69 : Nat) ({ cls := "java/util/ArrayList", name := "grow", desc := "(I)[Ljava/lang/Object;" } : Jvm.MethodName)) ∈ lw_gd := uc_3 (List.mem_of_getElem? (i := 220) (by decide +kernel)) (by decide +kernel)
theorem qc_942 : (Jvm.Cond.instanceMethod ({ cls := "java/util/ArrayList", name := "grow", desc := "(I)[Ljava/lang/Object;" } : Jvm.MethodName)) ∈ lw_gd := uc_3 (List.mem_of_getElem? (i := 222) (by decide +kernel)) (by decide +kernel)
theorem qc_943 : (Jvm.Cond.code ({ cls := "java/util/ArrayList", name := "grow", desc := "(I)[Ljava/lang/Object;" } : Jvm.MethodName) prog_37_method_6_code (4 : Nat) (Option.some (Jvm.ClassFile.FieldType.array (Jvm.ClassFile.FieldType.object "java/lang/Object")))) ∈ lw_gd := uc_3 (List.mem_of_getElem? (i := 223) (by decide +kernel)) (by decide +kernel)
theorem qc_944 : (Jvm.Cond.methodLink "java/util/ArrayList" (73 : Nat) ({ cls := "jdk/internal/util/ArraysSupport", name := "newLength", desc := "(III)I" } : Jvm.MethodName)) ∈ lw_gd := uc_3 (List.mem_of_getElem? (i := 224) (by decide +kernel)) (by decide +kernel)
theorem qc_945 : (Jvm.Cond.methodLink "java/util/ArrayList" (66 : Nat) ({ cls := "java/util/Arrays", name := "copyOf", desc := "([Ljava/lang/Object;I)[Ljava/lang/Object;" } : Jvm.MethodName)) ∈ lw_gd := uc_3 (List.mem_of_getElem? (i := 225) (by decide +kernel)) (by decide +kernel)
theorem qc_946 : (Jvm.Cond.static ({ cls := "java/util/Arrays", name := "copyOf", desc := "([Ljava/lang/Object;I)[Ljava/lang/Object;" } : Jvm.MethodName)) ∈ lw_gd := uc_3 (List.mem_of_getElem? (i := 226) (by decide +kernel)) (by decide +kernel)
theorem qc_947 : (Jvm.Cond.code ({ cls := "java/util/Arrays", name := "copyOf", desc := "([Ljava/lang/Object;I)[Ljava/lang/Object;" } : Jvm.MethodName) prog_38_method_119_code (2 : Nat) (Option.some (Jvm.ClassFile.FieldType.array (Jvm.ClassFile.FieldType.object "java/lang/Object")))) ∈ lw_gd := uc_3 (List.mem_of_getElem? (i := 227) (by decide +kernel)) (by decide +kernel)
theorem qc_948 : (Jvm.Cond.methodLink "java/util/Arrays" (86 : Nat) ({ cls := "java/lang/Object", name := "getClass", desc := "()Ljava/lang/Class;" } : Jvm.MethodName)) ∈ lw_gd := uc_3 (List.mem_of_getElem? (i := 228) (by decide +kernel)) (by decide +kernel)
theorem qc_949 : (Jvm.Cond.instanceMethod ({ cls := "java/lang/Object", name := "getClass", desc := "()Ljava/lang/Class;" } : Jvm.MethodName)) ∈ lw_gd := uc_3 (List.mem_of_getElem? (i := 229) (by decide +kernel)) (by decide +kernel)
theorem qc_970 : (Jvm.Cond.native ({ cls := "java/lang/Object", name := "getClass", desc := "()Ljava/lang/Class;" } : Jvm.MethodName)) ∈ lw_gd := uc_4 (List.mem_of_getElem? (i := 10) (by decide +kernel)) (by decide +kernel)
theorem qc_971 : (Jvm.Cond.methodLink "java/util/Arrays" (300 : Nat) ({ cls := "java/util/Arrays", name := "copyOf", desc := "([Ljava/lang/Object;ILjava/lang/Class;)[Ljava/lang/Object;" } : Jvm.MethodName)) ∈ lw_gd := uc_4 (List.mem_of_getElem? (i := 11) (by decide +kernel)) (by decide +kernel)
theorem qc_972 : (Jvm.Cond.static ({ cls := "java/util/Arrays", name := "copyOf", desc := "([Ljava/lang/Object;ILjava/lang/Class;)[Ljava/lang/Object;" } : Jvm.MethodName)) ∈ lw_gd := uc_4 (List.mem_of_getElem? (i := 12) (by decide +kernel)) (by decide +kernel)
theorem qc_973 : (Jvm.Cond.code ({ cls := "java/util/Arrays", name := "copyOf", desc := "([Ljava/lang/Object;ILjava/lang/Class;)[Ljava/lang/Object;" } : Jvm.MethodName) prog_38_method_120_code (4 : Nat) (Option.some (Jvm.ClassFile.FieldType.array (Jvm.ClassFile.FieldType.object "java/lang/Object")))) ∈ lw_gd := uc_4 (List.mem_of_getElem? (i := 13) (by decide +kernel)) (by decide +kernel)
theorem qc_974 : (Jvm.Cond.classLink "java/util/Arrays" (110 : Nat) "[Ljava/lang/Object;") ∈ lw_gd := uc_4 (List.mem_of_getElem? (i := 14) (by decide +kernel)) (by decide +kernel)
theorem qc_976 : (Jvm.Cond.classLink "java/util/Arrays" (2 : Nat) "java/lang/Object") ∈ lw_gd := uc_4 (List.mem_of_getElem? (i := 16) (by decide +kernel)) (by decide +kernel)
theorem qc_977 : (Jvm.Cond.methodLink "java/util/ArrayList" (79 : Nat) ({ cls := "java/lang/Math", name := "max", desc := "(II)I" } : Jvm.MethodName)) ∈ lw_gd := uc_4 (List.mem_of_getElem? (i := 17) (by decide +kernel)) (by decide +kernel)
theorem qc_978 : (Jvm.Cond.classLink "java/util/ArrayList" (7 : Nat) "java/lang/Object") ∈ lw_gd := uc_4 (List.mem_of_getElem? (i := 18) (by decide +kernel)) (by decide +kernel)
theorem qc_2179 : (Jvm.Cond.selects "[Ljava/lang/Object;" ({ cls := "java/lang/Object", name := "getClass", desc := "()Ljava/lang/Class;" } : Jvm.MethodName) ({ cls := "java/lang/Object", name := "getClass", desc := "()Ljava/lang/Class;" } : Jvm.MethodName)) ∈ lw_gd := uc_9 (List.mem_of_getElem? (i := 19) (by decide +kernel)) (by decide +kernel)
theorem qsc_9 : Cond.selects "java/util/ArrayList" (⟨"java/util/ArrayList", "add", "(Ljava/lang/Object;[Ljava/lang/Object;I)V"⟩ : MethodName) ⟨"java/util/ArrayList", "add", "(Ljava/lang/Object;[Ljava/lang/Object;I)V"⟩ ∈ lw_gd := lw_gds (List.mem_of_getElem? (i := 9) (by decide +kernel)) (by decide +kernel)
theorem qsc_10 : Cond.selects "java/util/ArrayList" (⟨"java/util/ArrayList", "grow", "()[Ljava/lang/Object;"⟩ : MethodName) ⟨"java/util/ArrayList", "grow", "()[Ljava/lang/Object;"⟩ ∈ lw_gd := lw_gds (List.mem_of_getElem? (i := 10) (by decide +kernel)) (by decide +kernel)
theorem qsc_11 : Cond.selects "java/util/ArrayList" (⟨"java/util/ArrayList", "grow", "(I)[Ljava/lang/Object;"⟩ : MethodName) ⟨"java/util/ArrayList", "grow", "(I)[Ljava/lang/Object;"⟩ ∈ lw_gd := lw_gds (List.mem_of_getElem? (i := 11) (by decide +kernel)) (by decide +kernel)
abbrev cC_cpO3 : ByteArray := prog_38_method_120_code
def yC_cpO3 : MethodName := ⟨"java/util/Arrays", "copyOf", "([Ljava/lang/Object;ILjava/lang/Class;)[Ljava/lang/Object;"⟩
theorem dC_cpO3_0 : decode cC_cpO3 0 = .ok (.aload_n 2, 1) := by decide +kernel
theorem dC_cpO3_1 : decode cC_cpO3 1 = .ok (.ldc 110, 2) := by decide +kernel
theorem dC_cpO3_3 : decode cC_cpO3 3 = .ok (.if_acmp .ne (10), 3) := by decide +kernel
theorem dC_cpO3_6 : decode cC_cpO3 6 = .ok (.iload_n 1, 1) := by decide +kernel
theorem dC_cpO3_7 : decode cC_cpO3 7 = .ok (.anewarray 2, 3) := by decide +kernel
theorem dC_cpO3_10 : decode cC_cpO3 10 = .ok (.goto (14), 3) := by decide +kernel
theorem dC_cpO3_24 : decode cC_cpO3 24 = .ok (.astore_n 3, 1) := by decide +kernel
theorem dC_cpO3_25 : decode cC_cpO3 25 = .ok (.aload_n 0, 1) := by decide +kernel
theorem dC_cpO3_26 : decode cC_cpO3 26 = .ok (.iconst (0), 1) := by decide +kernel
theorem dC_cpO3_27 : decode cC_cpO3 27 = .ok (.aload_n 3, 1) := by decide +kernel
theorem dC_cpO3_28 : decode cC_cpO3 28 = .ok (.iconst (0), 1) := by decide +kernel
theorem dC_cpO3_29 : decode cC_cpO3 29 = .ok (.aload_n 0, 1) := by decide +kernel
theorem dC_cpO3_30 : decode cC_cpO3 30 = .ok (.arraylength, 1) := by decide +kernel
theorem dC_cpO3_31 : decode cC_cpO3 31 = .ok (.iload_n 1, 1) := by decide +kernel
theorem dC_cpO3_32 : decode cC_cpO3 32 = .ok (.invokestatic 304, 3) := by decide +kernel
theorem dC_cpO3_35 : decode cC_cpO3 35 = .ok (.invokestatic 150, 3) := by decide +kernel
theorem dC_cpO3_38 : decode cC_cpO3 38 = .ok (.aload_n 3, 1) := by decide +kernel
theorem dC_cpO3_39 : decode cC_cpO3 39 = .ok (.areturn, 1) := by decide +kernel
abbrev cC_cpO2 : ByteArray := prog_38_method_119_code
def yC_cpO2 : MethodName := ⟨"java/util/Arrays", "copyOf", "([Ljava/lang/Object;I)[Ljava/lang/Object;"⟩
theorem dC_cpO2_0 : decode cC_cpO2 0 = .ok (.aload_n 0, 1) := by decide +kernel
theorem dC_cpO2_1 : decode cC_cpO2 1 = .ok (.iload_n 1, 1) := by decide +kernel
theorem dC_cpO2_2 : decode cC_cpO2 2 = .ok (.aload_n 0, 1) := by decide +kernel
theorem dC_cpO2_3 : decode cC_cpO2 3 = .ok (.invokevirtual 86, 3) := by decide +kernel
theorem dC_cpO2_6 : decode cC_cpO2 6 = .ok (.invokestatic 300, 3) := by decide +kernel
theorem dC_cpO2_9 : decode cC_cpO2 9 = .ok (.areturn, 1) := by decide +kernel
abbrev cC_grow1 : ByteArray := prog_37_method_6_code
def yC_grow1 : MethodName := ⟨R_Lst, "grow", "(I)[Ljava/lang/Object;"⟩
theorem dC_grow1_0 : decode cC_grow1 0 = .ok (.aload_n 0, 1) := by decide +kernel
theorem dC_grow1_1 : decode cC_grow1 1 = .ok (.getfield 9, 3) := by decide +kernel
theorem dC_grow1_4 : decode cC_grow1 4 = .ok (.arraylength, 1) := by decide +kernel
theorem dC_grow1_5 : decode cC_grow1 5 = .ok (.istore_n 2, 1) := by decide +kernel
theorem dC_grow1_6 : decode cC_grow1 6 = .ok (.iload_n 2, 1) := by decide +kernel
theorem dC_grow1_7 : decode cC_grow1 7 = .ok (.ifCond .gt (13), 3) := by decide +kernel
theorem dC_grow1_10 : decode cC_grow1 10 = .ok (.aload_n 0, 1) := by decide +kernel
theorem dC_grow1_11 : decode cC_grow1 11 = .ok (.getfield 9, 3) := by decide +kernel
theorem dC_grow1_14 : decode cC_grow1 14 = .ok (.getstatic 39, 3) := by decide +kernel
theorem dC_grow1_17 : decode cC_grow1 17 = .ok (.if_acmp .eq (28), 3) := by decide +kernel
theorem dC_grow1_20 : decode cC_grow1 20 = .ok (.iload_n 2, 1) := by decide +kernel
theorem dC_grow1_21 : decode cC_grow1 21 = .ok (.iload_n 1, 1) := by decide +kernel
theorem dC_grow1_22 : decode cC_grow1 22 = .ok (.iload_n 2, 1) := by decide +kernel
theorem dC_grow1_23 : decode cC_grow1 23 = .ok (.isub, 1) := by decide +kernel
theorem dC_grow1_24 : decode cC_grow1 24 = .ok (.iload_n 2, 1) := by decide +kernel
theorem dC_grow1_25 : decode cC_grow1 25 = .ok (.iconst (1), 1) := by decide +kernel
theorem dC_grow1_26 : decode cC_grow1 26 = .ok (.ishr, 1) := by decide +kernel
theorem dC_grow1_27 : decode cC_grow1 27 = .ok (.invokestatic 73, 3) := by decide +kernel
theorem dC_grow1_30 : decode cC_grow1 30 = .ok (.istore_n 3, 1) := by decide +kernel
theorem dC_grow1_31 : decode cC_grow1 31 = .ok (.aload_n 0, 1) := by decide +kernel
theorem dC_grow1_32 : decode cC_grow1 32 = .ok (.aload_n 0, 1) := by decide +kernel
theorem dC_grow1_33 : decode cC_grow1 33 = .ok (.getfield 9, 3) := by decide +kernel
theorem dC_grow1_36 : decode cC_grow1 36 = .ok (.iload_n 3, 1) := by decide +kernel
theorem dC_grow1_37 : decode cC_grow1 37 = .ok (.invokestatic 66, 3) := by decide +kernel
theorem dC_grow1_40 : decode cC_grow1 40 = .ok (.dup_x1, 1) := by decide +kernel
theorem dC_grow1_41 : decode cC_grow1 41 = .ok (.putfield 9, 3) := by decide +kernel
theorem dC_grow1_44 : decode cC_grow1 44 = .ok (.areturn, 1) := by decide +kernel
theorem dC_grow1_45 : decode cC_grow1 45 = .ok (.aload_n 0, 1) := by decide +kernel
theorem dC_grow1_46 : decode cC_grow1 46 = .ok (.bipush (10), 2) := by decide +kernel
theorem dC_grow1_48 : decode cC_grow1 48 = .ok (.iload_n 1, 1) := by decide +kernel
theorem dC_grow1_49 : decode cC_grow1 49 = .ok (.invokestatic 79, 3) := by decide +kernel
theorem dC_grow1_52 : decode cC_grow1 52 = .ok (.anewarray 7, 3) := by decide +kernel
theorem dC_grow1_55 : decode cC_grow1 55 = .ok (.dup_x1, 1) := by decide +kernel
theorem dC_grow1_56 : decode cC_grow1 56 = .ok (.putfield 9, 3) := by decide +kernel
theorem dC_grow1_59 : decode cC_grow1 59 = .ok (.areturn, 1) := by decide +kernel
abbrev cC_grow0 : ByteArray := prog_37_method_7_code
def yC_grow0 : MethodName := ⟨R_Lst, "grow", "()[Ljava/lang/Object;"⟩
theorem dC_grow0_0 : decode cC_grow0 0 = .ok (.aload_n 0, 1) := by decide +kernel
theorem dC_grow0_1 : decode cC_grow0 1 = .ok (.aload_n 0, 1) := by decide +kernel
theorem dC_grow0_2 : decode cC_grow0 2 = .ok (.getfield 48, 3) := by decide +kernel
theorem dC_grow0_5 : decode cC_grow0 5 = .ok (.iconst (1), 1) := by decide +kernel
theorem dC_grow0_6 : decode cC_grow0 6 = .ok (.iadd, 1) := by decide +kernel
theorem dC_grow0_7 : decode cC_grow0 7 = .ok (.invokevirtual 69, 3) := by decide +kernel
theorem dC_grow0_10 : decode cC_grow0 10 = .ok (.areturn, 1) := by decide +kernel
abbrev cC_add3 : ByteArray := prog_37_method_24_code
def yC_add3 : MethodName := ⟨R_Lst, "add", "(Ljava/lang/Object;[Ljava/lang/Object;I)V"⟩
theorem dC_add3_0 : decode cC_add3 0 = .ok (.iload_n 3, 1) := by decide +kernel
theorem dC_add3_1 : decode cC_add3 1 = .ok (.aload_n 2, 1) := by decide +kernel
theorem dC_add3_2 : decode cC_add3 2 = .ok (.arraylength, 1) := by decide +kernel
theorem dC_add3_3 : decode cC_add3 3 = .ok (.if_icmp .ne (8), 3) := by decide +kernel
theorem dC_add3_6 : decode cC_add3 6 = .ok (.aload_n 0, 1) := by decide +kernel
theorem dC_add3_7 : decode cC_add3 7 = .ok (.invokevirtual 129, 3) := by decide +kernel
theorem dC_add3_10 : decode cC_add3 10 = .ok (.astore_n 2, 1) := by decide +kernel
theorem dC_add3_11 : decode cC_add3 11 = .ok (.aload_n 2, 1) := by decide +kernel
theorem dC_add3_12 : decode cC_add3 12 = .ok (.iload_n 3, 1) := by decide +kernel
theorem dC_add3_13 : decode cC_add3 13 = .ok (.aload_n 1, 1) := by decide +kernel
theorem dC_add3_14 : decode cC_add3 14 = .ok (.aastore, 1) := by decide +kernel
theorem dC_add3_15 : decode cC_add3 15 = .ok (.aload_n 0, 1) := by decide +kernel
theorem dC_add3_16 : decode cC_add3 16 = .ok (.iload_n 3, 1) := by decide +kernel
theorem dC_add3_17 : decode cC_add3 17 = .ok (.iconst (1), 1) := by decide +kernel
theorem dC_add3_18 : decode cC_add3 18 = .ok (.iadd, 1) := by decide +kernel
theorem dC_add3_19 : decode cC_add3 19 = .ok (.putfield 48, 3) := by decide +kernel
theorem dC_add3_22 : decode cC_add3 22 = .ok (.return_, 1) := by decide +kernel
abbrev cC_Ladd : ByteArray := prog_37_method_25_code
def yC_Ladd : MethodName := ⟨R_Lst, "add", "(Ljava/lang/Object;)Z"⟩
theorem dC_Ladd_0 : decode cC_Ladd 0 = .ok (.aload_n 0, 1) := by decide +kernel
theorem dC_Ladd_1 : decode cC_Ladd 1 = .ok (.dup, 1) := by decide +kernel
theorem dC_Ladd_2 : decode cC_Ladd 2 = .ok (.getfield 63, 3) := by decide +kernel
theorem dC_Ladd_5 : decode cC_Ladd 5 = .ok (.iconst (1), 1) := by decide +kernel
theorem dC_Ladd_6 : decode cC_Ladd 6 = .ok (.iadd, 1) := by decide +kernel
theorem dC_Ladd_7 : decode cC_Ladd 7 = .ok (.putfield 63, 3) := by decide +kernel
theorem dC_Ladd_10 : decode cC_Ladd 10 = .ok (.aload_n 0, 1) := by decide +kernel
theorem dC_Ladd_11 : decode cC_Ladd 11 = .ok (.aload_n 1, 1) := by decide +kernel
theorem dC_Ladd_12 : decode cC_Ladd 12 = .ok (.aload_n 0, 1) := by decide +kernel
theorem dC_Ladd_13 : decode cC_Ladd 13 = .ok (.getfield 9, 3) := by decide +kernel
theorem dC_Ladd_16 : decode cC_Ladd 16 = .ok (.aload_n 0, 1) := by decide +kernel
theorem dC_Ladd_17 : decode cC_Ladd 17 = .ok (.getfield 48, 3) := by decide +kernel
theorem dC_Ladd_20 : decode cC_Ladd 20 = .ok (.invokevirtual 131, 3) := by decide +kernel
theorem dC_Ladd_23 : decode cC_Ladd 23 = .ok (.iconst (1), 1) := by decide +kernel
theorem dC_Ladd_24 : decode cC_Ladd 24 = .ok (.ireturn, 1) := by decide +kernel
section
variable {p : Program} {l : Launch} {e : Env} {R : Room} {s : State} {m : MethodId} {args : Array Value} {below : List Frame} {meth : Method} {c : Code} {H : Heap} {locs : List Loc} {cells slots : Nat} {Q : State → Prop} {pc : Nat} {ls : Array Slot} {rest : List Value} {cc : ByteArray} {nL : Nat} {rt : Option FieldType} {D : va_G} {dA : Nat → ClassId} {z : Nat → Nat} {A : Nat → Prop} {R0 : String} {Ws Ws' : List va_W}
theorem WdC.perm (hW : WdC D A s Ws H locs) (h : Ws.flatten.Perm Ws'.flatten) : WdC D A s Ws' H locs := ⟨cp_perm h hW.1, cd_perm h hW.2.1, hW.2.2⟩
theorem WdC.eqf (hW : WdC D A s Ws H locs) (h : Ws.flatten = Ws'.flatten) : WdC D A s Ws' H locs := hW.perm (h ▸ List.Perm.refl _)
theorem x_newO (C : CxC R0 p s m args meth c cc nL rt D dA z A) (hW : WdC D A s Ws H locs) {n : Int32} (hn : ¬ n < 0) (hbytes : n.toNatClampNeg * 4 ≤ 536870912) (hcells : cells + 1 ≤ R.cells) (hslots : slots + n.toNatClampNeg ≤ R.slots) {idx : Nat} (hcl : Cond.classLink R0 idx "java/lang/Object" ∈ lw_gd) (hdg : decode cc pc = .ok (.anewarray idx, 3))
    (kk : ∀ (q : Nat) (H1 : Heap), WdC D A s (Ws ++ [lrow dA q n.toNatClampNeg (fun _ => none)]) H1 locs → W p l e R s m args below meth c H1 locs (cells + 1) (slots + n.toNatClampNeg) Q (F0 m (pc + 3) ls (.ref q :: rest))) : W p l e R s m args below meth c H locs cells slots Q (F0 m pc ls (.int n :: rest)) := by
  obtain ⟨⟨hx, hb, hml, hrt, hown, hT, hlk⟩, hK, hA, hEX⟩ := C
  refine va_newq (D := D) (cl := classes) (tys := tyC dA) (ws := Ws.flatten) hx hb hown (hT _ hcl) hEX.ao hK hW.1 hW.2.1 hW.2.2 hA hn rfl hbytes hcells hslots hdg (fun q cA H1 hK1 hP hD hS => ?_)
  have h1 : s.vm.findClass ("[" ++ (FieldType.object "java/lang/Object").toString) = some cA := by
    obtain ⟨-, -, -, -, -, h4⟩ := (hK1.2 5 (cA, .object "java/lang/Object") rfl).2
    exact h4
  have h2 : s.vm.findClass ("[" ++ (FieldType.object "java/lang/Object").toString) = some (dA 4) := by
    obtain ⟨-, -, -, -, -, h4⟩ := (hK.2 4 (dA 4, .object "java/lang/Object") rfl).2
    exact h4
  have h3 : cA = dA 4 := Option.some.inj (h1.symm.trans h2)
  subst h3
  refine kk q H1 ⟨?_, ?_, hS⟩
  · rw [List.flatten_append]; exact hP
  · rw [List.flatten_append]; exact hD
theorem x_alenO (C : CxC R0 p s m args meth c cc nL rt D dA z A) (hW : WdC D A s Ws H locs) (q0 : Nat) {a n : Nat} {f : Nat → Option Nat} (ha : Ws.flatten[q0]? = some (a, .inl (dA 4, n, .inr (.inr (.inr (.inr f)))))) (hdg : decode cc pc = .ok (.arraylength, 1))
    (kk : W p l e R s m args below meth c H locs cells slots Q (F0 m (pc + 1) ls (.int (nI n) :: rest))) : W p l e R s m args below meth c H locs cells slots Q (F0 m pc ls (.ref a :: rest)) :=
  va_alen C.1.1 C.1.2.1 C.2.1 hW.1 q0 4 (x := (n, .inr (.inr (.inr (.inr f))))) ha (ty := .object "java/lang/Object") rfl rfl hdg kk
end
/-- the items that the list's array holds stand in P -/
def inP (f : Nat → Option Nat) (P : va_W) : Prop := ∀ k y, f k = some y → ∃ fs, (y, .inr (4, fs)) ∈ P
set_option maxHeartbeats 4000000 in
set_option maxRecDepth 100000 in
theorem kC_cpO3 (l : Launch) (D : va_G) (dA : Nat → ClassId) (z : Nat → Nat) (a : Nat) (n : Int32) (g : Nat) (f : Nat → Option Nat) (P : va_W) (hin : inP f P) (g2 : ¬ n < 0) (g3 : n.toNatClampNeg * 4 ≤ 536870912) (g4 : ¬ jmin (nI g) n < 0) (g5 : (jmin (nI g) n).toNatClampNeg ≤ g) (g6 : (jmin (nI g) n).toNatClampNeg ≤ n.toNatClampNeg) :
    KC l D dA z yC_cpO3 cC_cpO3 4 (some (.array (.object "java/lang/Object"))) 1 80 1 n.toNatClampNeg [lrow dA a g f, P] [.ref a, .int n, .ref (z 1)] (fun Ws' ov => ∃ q : Nat, Ws' = [lrow dA a g f ++ lrow dA q n.toNatClampNeg (va_cpy f (fun _ => none) 0 0 (jmin (nI g) n).toNatClampNeg), P] ∧ ov = some (.ref q)) := by
  refine x_enterC (by decide +kernel) (Nat.le_of_ble_eq_true rfl) (fun p e s m args below meth c A C _ hW ls hl => ?_)
  have hx := C.1.1
  have hb := C.1.2.1
  have hown := C.1.2.2.2.2.1
  have hT := C.1.2.2.2.2.2.1
  have hl : lv_has ls 4 [(0, .ref a), (1, .int n), (2, .ref (z 1))] := hl
  refine lv_aload_n (pc := 0) hx hb dC_cpO3_0 rfl (lv_at hl 2 rfl) ?_
  refine va_ldcM (pc := 1) hx hb hown (hT _ qc_974) C.2.2.2.mi dC_cpO3_1 ?_
  refine lv_acmp_ne (pc := 3) (rx := some (z 1)) (ry := some (z 1)) (tgt := 13) hx hb dC_cpO3_3 (by decide) (fun hc => absurd rfl hc) (fun _ => ?_)
  refine lv_iload_n (pc := 6) hx hb dC_cpO3_6 rfl (lv_at hl 1 rfl) ?_
  refine x_newO (pc := 7) C hW g2 g3 (show 0 + 1 ≤ 1 by omega) (show 0 + n.toNatClampNeg ≤ n.toNatClampNeg by omega) qc_976 dC_cpO3_7 (fun q H hW => ?_)
  have hW : WdC D A s [lrow dA a g f, lrow dA q n.toNatClampNeg (fun _ => none), P] H [] := hW.perm (by
    simp only [List.flatten_cons, List.flatten_nil, List.append_nil, List.cons_append, List.nil_append]
    exact List.Perm.cons _ (List.perm_append_comm (l₂ := [_])))
  refine lv_goto (pc := 10) (tgt := 24) hx hb dC_cpO3_10 (by decide) ?_
  refine lv_astore_n (pc := 24) (lv' := [(3, .ref q), (0, .ref a), (1, .int n), (2, .ref (z 1))]) hx hb dC_cpO3_24 rfl hl (by decide) rfl (fun ls hl => ?_)
  refine lv_aload_n (pc := 25) hx hb dC_cpO3_25 rfl (lv_at hl 1 rfl) ?_
  refine lv_iconst (pc := 26) (v := 0) hx hb dC_cpO3_26 (by decide) ?_
  refine lv_aload_n (pc := 27) hx hb dC_cpO3_27 rfl (lv_at hl 0 rfl) ?_
  refine lv_iconst (pc := 28) (v := 0) hx hb dC_cpO3_28 (by decide) ?_
  refine lv_aload_n (pc := 29) hx hb dC_cpO3_29 rfl (lv_at hl 1 rfl) ?_
  refine x_alenO (pc := 30) C hW 0 rfl dC_cpO3_30 ?_
  refine lv_iload_n (pc := 31) hx hb dC_cpO3_31 rfl (lv_at hl 2 rfl) ?_
  refine va_mmin (pc := 32) hx hb (C.1.2.2.1.trans hl.1.symm) hown (hT _ qc_86) (hT _ qc_87) (hT _ qc_5) (hT _ qc_88) (Nat.le_of_ble_eq_true rfl) (Nat.le_of_ble_eq_true rfl) (by show 0 + 1 ≤ 1; omega) (by show 0 + n.toNatClampNeg ≤ n.toNatClampNeg; omega) dC_cpO3_32 ?_
  refine va_copyM (pc := 35) (D := D) (cl := classes) (tys := tyC dA) (ws := [lrow dA a g f, lrow dA q n.toNatClampNeg (fun _ => none), P].flatten) (E0 := "java/lang/Object") (E1 := "java/lang/Object") hx hb (C.1.2.2.1.trans hl.1.symm) hown (hT _ qc_89) (hT _ qc_91) (hT _ qc_90) (hT _ qc_6) C.2.1 hW.1 hW.2.1 hW.2.2 0 1 4 4 rfl rfl rfl rfl (by decide) (by decide) g4 (by rw [show (0 : Int32).toNatClampNeg = 0 from rfl, Nat.zero_add]; exact g5) (by rw [show (0 : Int32).toNatClampNeg = 0 from rfl, Nat.zero_add]; exact g6) (fun j _ y hy => ?_) (Nat.le_of_ble_eq_true rfl) (show (0 : Nat) + (nativeFrameWords "java/lang/System" "arraycopy" 5 + 11) ≤ 80 by decide +kernel) dC_cpO3_35 (fun H locs hP hD hS => ?_)
  · obtain ⟨fs, hm⟩ := hin _ y hy
    obtain ⟨k, hk⟩ := List.getElem?_of_mem (show (y, .inr (4, fs)) ∈ [lrow dA a g f, lrow dA q n.toNatClampNeg (fun _ => none), P].flatten by simp [hm])
    exact va_rAny C.2.1 hW.1 hk (r := (R_Itm, F_Itm, 9)) rfl (fun comp c0 h1 h2 => vb_asgC (ex_cast C.2.2.2) comp c0 h1 h2)
  have hW : WdC D A s [lrow dA a g f ++ lrow dA q n.toNatClampNeg (va_cpy f (fun _ => none) 0 0 (jmin (nI g) n).toNatClampNeg), P] H locs := ⟨hP, hD, hS⟩
  refine lv_aload_n (pc := 38) hx hb dC_cpO3_38 rfl (lv_at hl 0 rfl) ?_
  exact x_retCa (pc := 39) C rfl (Or.inr ⟨_, rfl⟩) hW ⟨q, rfl, rfl⟩ (by omega) (by omega) dC_cpO3_39
set_option maxHeartbeats 4000000 in
set_option maxRecDepth 100000 in
theorem kC_cpO2 (l : Launch) (D : va_G) (dA : Nat → ClassId) (z : Nat → Nat) (a : Nat) (n : Int32) (g : Nat) (f : Nat → Option Nat) (P : va_W) (hin : inP f P) (g2 : ¬ n < 0) (g3 : n.toNatClampNeg * 4 ≤ 536870912) (g4 : ¬ jmin (nI g) n < 0) (g5 : (jmin (nI g) n).toNatClampNeg ≤ g) (g6 : (jmin (nI g) n).toNatClampNeg ≤ n.toNatClampNeg) :
    KC l D dA z yC_cpO2 cC_cpO2 2 (some (.array (.object "java/lang/Object"))) 2 120 1 n.toNatClampNeg [lrow dA a g f, P] [.ref a, .int n] (fun Ws' ov => ∃ q : Nat, Ws' = [lrow dA a g f ++ lrow dA q n.toNatClampNeg (va_cpy f (fun _ => none) 0 0 (jmin (nI g) n).toNatClampNeg), P] ∧ ov = some (.ref q)) := by
  refine x_enterC (by decide +kernel) (Nat.le_of_ble_eq_true rfl) (fun p e s m args below meth c A C _ hW ls hl => ?_)
  have hx := C.1.1
  have hb := C.1.2.1
  have hown := C.1.2.2.2.2.1
  have hT := C.1.2.2.2.2.2.1
  have hl : lv_has ls 2 [(0, .ref a), (1, .int n)] := hl
  refine lv_aload_n (pc := 0) hx hb dC_cpO2_0 rfl (lv_at hl 0 rfl) ?_
  refine lv_iload_n (pc := 1) hx hb dC_cpO2_1 rfl (lv_at hl 1 rfl) ?_
  refine lv_aload_n (pc := 2) hx hb dC_cpO2_2 rfl (lv_at hl 0 rfl) ?_
  refine va_getC (pc := 3) (C := "[Ljava/lang/Object;") hx hb (C.1.2.2.1.trans hl.1.symm) hown (hT _ qc_948) (va_Dc.use C.2.2.2.dc) (hT _ qc_2179) (hT _ qc_949) (hT _ qc_970) C.2.2.2.mi ⟨_, hW.1 0 _ rfl, rfl, va_nmO (C := "java/lang/Object") (C.2.1.2 4 (dA 4, .object "java/lang/Object") rfl).2 (by decide +kernel)⟩ (Nat.le_of_ble_eq_true rfl) (Nat.le_of_ble_eq_true rfl) dC_cpO2_3 ?_
  refine x_callT (pc := 6) (n' := 2) C hW (kC_cpO3 l D dA z a n g f P hin g2 g3 g4 g5 g6) [0, 1] rfl (by decide +kernel) rfl qc_973 qc_971 qc_972 qc_4 ⟨by decide, by decide, by decide +kernel⟩ ⟨Nat.le_of_ble_eq_true rfl, Nat.le_of_ble_eq_true rfl⟩ ⟨show 0 + 1 ≤ 1 by omega, show 0 + n.toNatClampNeg ≤ n.toNatClampNeg by omega⟩ (As := [.ref a, .int n, .ref (z 1)]) (n := 3) rfl hl.1 rfl (Nat.le_of_ble_eq_true rfl) dC_cpO2_6 (fun Wc' ov H locs hPo hWn => ?_)
  obtain ⟨q, rfl, rfl⟩ := hPo
  have hW := hWn [lrow dA a g f ++ lrow dA q n.toNatClampNeg (va_cpy f (fun _ => none) 0 0 (jmin (nI g) n).toNatClampNeg), P] rfl rfl
  exact x_retCa (pc := 9) C rfl (Or.inr ⟨_, rfl⟩) hW ⟨q, rfl, rfl⟩ (by omega) (by omega) dC_cpO2_9
/-- how many places the list's array has after it has grown -/
def C_Lst_cap (n : Nat) (g : Nat) : Option Int32 :=
  if (0 : Int32) < nI g then
    cr (C_Asp_newLength (nI g) (nI n + 1 - nI g) (nI g >>> ((1 : Int32) &&& 31))) (fun c => gd (!(decide (c < 0))) (gd (decide (c.toNatClampNeg * 4 ≤ 536870912)) (gd (!(decide (jmin (nI g) c < 0))) (gd (decide ((jmin (nI g) c).toNatClampNeg ≤ g)) (gd (decide ((jmin (nI g) c).toNatClampNeg ≤ c.toNatClampNeg)) (gd (decide (n ≤ (jmin (nI g) c).toNatClampNeg)) (some c)))))))
  else gd (decide (g = 0)) (gd (decide (n = 0)) (some 10))
/-- what the array holds then -/
def lcpy (n : Nat) (g : Nat) (c : Int32) (f : Nat → Option Nat) : Nat → Option Nat := if (0 : Int32) < nI g then va_cpy f (fun _ => none) 0 0 (jmin (nI g) c).toNatClampNeg else fun _ => none
def lorow (dA : Nat → ClassId) (a g : Nat) (f : Nat → Option Nat) : va_W := if g = 0 then [] else lrow dA a g f
set_option maxHeartbeats 4000000 in
set_option maxRecDepth 100000 in
theorem kC_grow1 (l : Launch) (D : va_G) (dA : Nat → ClassId) (z : Nat → Nat) (ob a n g : Nat) (mc : Int32) (f : Nat → Option Nat) (P : va_W) (hin : inP f P) (ha : g = 0 → a = z 0) {k : Int32} (hM : C_Lst_cap n g = some k) :
    KC l D dA z yC_grow1 cC_grow1 4 (some (.array (.object "java/lang/Object"))) 3 160 1 k.toNatClampNeg [lobj ob a (nI n) mc, lorow dA a g f, P] [.ref ob, .int (nI n + 1)] (fun Ws' ov => ∃ q : Nat, Ws' = [lobj ob q (nI n) mc, lrow dA q k.toNatClampNeg (lcpy n g k f), P] ∧ ov = some (.ref q)) := by
  refine x_enterC (by decide +kernel) (Nat.le_of_ble_eq_true rfl) (fun p e s m args below meth c A C _ hW ls hl => ?_)
  have hx := C.1.1
  have hb := C.1.2.1
  have hown := C.1.2.2.2.2.1
  have hT := C.1.2.2.2.2.2.1
  have hl : lv_has ls 4 [(0, .ref ob), (1, .int (nI n + 1))] := hl
  refine lv_aload_n (pc := 0) hx hb dC_grow1_0 rfl (lv_at hl 0 rfl) ?_
  refine x_getC (pc := 1) C hW 0 rfl (ci := 11) rfl i_Lst 0 (by decide) qc_318 rfl rfl dC_grow1_1 ?_
  by_cases hg : (0 : Int32) < nI g
  · have hg0 : ¬ g = 0 := fun h => by rw [h] at hg; exact absurd hg (by decide)
    have er : lorow dA a g f = lrow dA a g f := if_neg hg0
    have ec : lcpy n g k f = va_cpy f (fun _ => none) 0 0 (jmin (nI g) k).toNatClampNeg := if_pos hg
    rw [er] at hW
    rw [ec]
    unfold C_Lst_cap at hM
    replace hM := it_t hg hM
    obtain ⟨k1, hk1, hM⟩ := cr_some hM
    obtain ⟨g2, hM⟩ := gd_some hM
    obtain ⟨g3, hM⟩ := gd_some hM
    obtain ⟨g4, hM⟩ := gd_some hM
    obtain ⟨g5, hM⟩ := gd_some hM
    obtain ⟨g6, hM⟩ := gd_some hM
    obtain ⟨-, hM⟩ := gd_some hM
    obtain rfl := sm_i hM
    simp only [Bool.not_eq_true', decide_eq_false_iff_not, decide_eq_true_eq] at g2 g3 g4 g5 g6
    refine x_alenO (pc := 4) C hW 1 rfl dC_grow1_4 ?_
    refine lv_istore_n (pc := 5) (lv' := [(2, .int (nI g)), (0, .ref ob), (1, .int (nI n + 1))]) hx hb dC_grow1_5 rfl hl (by decide) rfl (fun ls hl => ?_)
    refine lv_iload_n (pc := 6) hx hb dC_grow1_6 rfl (lv_at hl 0 rfl) ?_
    refine lv_if_gt (pc := 7) (tgt := 20) hx hb dC_grow1_7 (by decide) (fun _ => ?_) (fun hc => absurd hg hc)
    refine lv_iload_n (pc := 20) hx hb dC_grow1_20 rfl (lv_at hl 0 rfl) ?_
    refine lv_iload_n (pc := 21) hx hb dC_grow1_21 rfl (lv_at hl 2 rfl) ?_
    refine lv_iload_n (pc := 22) hx hb dC_grow1_22 rfl (lv_at hl 0 rfl) ?_
    refine lv_isub (pc := 23) hx hb dC_grow1_23 ?_
    refine lv_iload_n (pc := 24) hx hb dC_grow1_24 rfl (lv_at hl 0 rfl) ?_
    refine lv_iconst (pc := 25) (v := 1) hx hb dC_grow1_25 (by decide) ?_
    refine lv_ishr (pc := 26) hx hb dC_grow1_26 ?_
    refine x_callU (pc := 27) (ov := some (.int k)) C.1 (kC_Asp_newLength l _ _ _ hk1) qc_711 qc_944 qc_710 qc_30 ⟨by decide, by decide, by decide +kernel⟩ ⟨rfl, rfl⟩ ⟨Nat.le_of_ble_eq_true rfl, Nat.le_of_ble_eq_true rfl⟩ ⟨show 0 ≤ 1 by omega, show 0 ≤ k.toNatClampNeg by omega⟩ (As := [.int (nI g), .int (nI n + 1 - nI g), .int (nI g >>> ((1 : Int32) &&& 31))]) (n := 3) rfl hl.1 rfl (Nat.le_of_ble_eq_true rfl) dC_grow1_27 ?_
    refine lv_istore_n (pc := 30) (lv' := [(3, .int k), (2, .int (nI g)), (0, .ref ob), (1, .int (nI n + 1))]) hx hb dC_grow1_30 rfl hl (by decide) rfl (fun ls hl => ?_)
    refine lv_aload_n (pc := 31) hx hb dC_grow1_31 rfl (lv_at hl 2 rfl) ?_
    refine lv_aload_n (pc := 32) hx hb dC_grow1_32 rfl (lv_at hl 2 rfl) ?_
    refine x_getC (pc := 33) C hW 0 rfl (ci := 11) rfl i_Lst 0 (by decide) qc_318 rfl rfl dC_grow1_33 ?_
    refine lv_iload_n (pc := 36) hx hb dC_grow1_36 rfl (lv_at hl 0 rfl) ?_
    refine x_callT (pc := 37) (n' := 3) C hW (kC_cpO2 l D dA z a k g f P hin g2 g3 g4 g5 g6) [1, 2, 0] rfl (by decide +kernel) rfl qc_947 qc_945 qc_946 qc_4 ⟨by decide, by decide, by decide +kernel⟩ ⟨Nat.le_of_ble_eq_true rfl, Nat.le_of_ble_eq_true rfl⟩ ⟨show 0 + 1 ≤ 1 by omega, show 0 + k.toNatClampNeg ≤ k.toNatClampNeg by omega⟩ (As := [.ref a, .int k]) (n := 2) rfl hl.1 rfl (Nat.le_of_ble_eq_true rfl) dC_grow1_37 (fun Wc' ov H locs hPo hWn => ?_)
    obtain ⟨q, rfl, rfl⟩ := hPo
    have hW := hWn [lobj ob a (nI n) mc, lrow dA a g f ++ lrow dA q k.toNatClampNeg (va_cpy f (fun _ => none) 0 0 (jmin (nI g) k).toNatClampNeg), P] rfl rfl
    refine lv_dup_x1 (pc := 40) hx hb dC_grow1_40 rfl rfl ?_
    refine x_putC (pc := 41) (ty := .array (.object "java/lang/Object")) (v := .ref q) (Ws' := [lobj ob q (nI n) mc, lrow dA a g f ++ lrow dA q k.toNatClampNeg (va_cpy f (fun _ => none) 0 0 (jmin (nI g) k).toNatClampNeg), P]) C hW 0 rfl (ci := 11) rfl i_Lst tok_Lst n_Lst 0 (by decide) qc_318 rfl rfl (by decide +kernel) rfl rfl (Nat.le_of_ble_eq_true rfl) rfl dC_grow1_41 (fun H locs hW => ?_)
    have hW := WdC.drop (Ws' := [lobj ob q (nI n) mc, lrow dA q k.toNatClampNeg (va_cpy f (fun _ => none) 0 0 (jmin (nI g) k).toNatClampNeg), P]) hW 1 rfl
    exact x_retCa (pc := 44) C rfl (Or.inr ⟨_, rfl⟩) hW ⟨q, rfl, rfl⟩ (by omega) (by omega) dC_grow1_44
  · unfold C_Lst_cap at hM
    replace hM := it_f hg hM
    obtain ⟨g1, hM⟩ := gd_some hM
    obtain ⟨g2, hM⟩ := gd_some hM
    obtain rfl := sm_i hM
    have g1 := of_decide_eq_true g1
    have g2 := of_decide_eq_true g2
    subst g1 g2
    have ea := ha rfl
    subst ea
    have er : lorow dA (z 0) 0 f = [] := rfl
    have ec : lcpy 0 0 10 f = fun _ => none := if_neg hg
    rw [er] at hW
    rw [ec]
    refine va_tlen (pc := 4) (v := 0) hx hb C.2.2.2.t0 hW.2.2 rfl dC_grow1_4 ?_
    refine lv_istore_n (pc := 5) (lv' := [(2, .int 0), (0, .ref ob), (1, .int (nI 0 + 1))]) hx hb dC_grow1_5 rfl hl (by decide) rfl (fun ls hl => ?_)
    refine lv_iload_n (pc := 6) hx hb dC_grow1_6 rfl (lv_at hl 0 rfl) ?_
    refine lv_if_gt (pc := 7) (tgt := 20) hx hb dC_grow1_7 (by decide) (fun hc => absurd hc (by decide)) (fun _ => ?_)
    refine lv_aload_n (pc := 10) hx hb dC_grow1_10 rfl (lv_at hl 1 rfl) ?_
    refine x_getC (pc := 11) C hW 0 rfl (ci := 11) rfl i_Lst 0 (by decide) qc_318 rfl rfl dC_grow1_11 ?_
    refine va_gets (pc := 14) hx hb C.2.2.2.z0 hW.2.2 hown (hT _ qc_316) (fun _ h => h) dC_grow1_14 ?_
    refine lv_acmp_eq (pc := 17) (rx := some (z 0)) (ry := some (z 0)) (tgt := 45) hx hb dC_grow1_17 (by decide) (fun _ => ?_) (fun hc => absurd rfl hc)
    refine lv_aload_n (pc := 45) hx hb dC_grow1_45 rfl (lv_at hl 1 rfl) ?_
    refine lv_bipush (pc := 46) (v := 10) hx hb dC_grow1_46 (by decide) ?_
    refine lv_iload_n (pc := 48) hx hb dC_grow1_48 rfl (lv_at hl 2 rfl) ?_
    refine va_mmax (pc := 49) hx hb (C.1.2.2.1.trans hl.1.symm) hown (hT _ qc_977) (hT _ qc_713) (hT _ qc_5) (hT _ qc_714) (Nat.le_of_ble_eq_true rfl) (Nat.le_of_ble_eq_true rfl) (show 0 ≤ 1 by omega) (show 0 ≤ Int32.toNatClampNeg 10 by omega) dC_grow1_49 ?_
    refine x_seti (b := 10) (by decide) ?_
    refine x_newO (pc := 52) C hW (by decide) (by decide) (show 0 + 1 ≤ 1 by omega) (show 0 + Int32.toNatClampNeg 10 ≤ Int32.toNatClampNeg 10 by omega) qc_978 dC_grow1_52 (fun q H hW => ?_)
    have hW : WdC D A s [lobj ob (z 0) (nI 0) mc, lrow dA q (Int32.toNatClampNeg 10) (fun _ => none), P] H [] := hW.perm (by
      simp only [List.flatten_cons, List.flatten_nil, List.append_nil, List.cons_append, List.nil_append]
      exact List.Perm.cons _ (List.perm_append_comm (l₂ := [_])))
    refine lv_dup_x1 (pc := 55) hx hb dC_grow1_55 rfl rfl ?_
    refine x_putC (pc := 56) (ty := .array (.object "java/lang/Object")) (v := .ref q) (Ws' := [lobj ob q (nI 0) mc, lrow dA q (Int32.toNatClampNeg 10) (fun _ => none), P]) C hW 0 rfl (ci := 11) rfl i_Lst tok_Lst n_Lst 0 (by decide) qc_318 rfl rfl (by decide +kernel) rfl rfl (Nat.le_of_ble_eq_true rfl) rfl dC_grow1_56 (fun H locs hW => ?_)
    exact x_retCa (pc := 59) C rfl (Or.inr ⟨_, rfl⟩) hW ⟨q, rfl, rfl⟩ (by omega) (by omega) dC_grow1_59
theorem gC_grow1 : GoodIn lw_gd (wsV R_Lst 69 R_Lst yC_grow1 (.code yC_grow1 cC_grow1 4 (some (.array (.object "java/lang/Object"))) :: lw_gd)) := lw_GV qc_943 qc_940 qc_942 qsc_11 qc_17
set_option maxHeartbeats 4000000 in
set_option maxRecDepth 100000 in
theorem kC_grow0 (l : Launch) (D : va_G) (dA : Nat → ClassId) (z : Nat → Nat) (ob a n g : Nat) (mc : Int32) (f : Nat → Option Nat) (P : va_W) (hin : inP f P) (ha : g = 0 → a = z 0) {k : Int32} (hM : C_Lst_cap n g = some k) :
    KC l D dA z yC_grow0 cC_grow0 1 (some (.array (.object "java/lang/Object"))) 4 200 1 k.toNatClampNeg [lobj ob a (nI n) mc, lorow dA a g f, P] [.ref ob] (fun Ws' ov => ∃ q : Nat, Ws' = [lobj ob q (nI n) mc, lrow dA q k.toNatClampNeg (lcpy n g k f), P] ∧ ov = some (.ref q)) := by
  refine x_enterC (by decide +kernel) (Nat.le_of_ble_eq_true rfl) (fun p e s m args below meth c A C _ hW ls hl => ?_)
  have hx := C.1.1
  have hb := C.1.2.1
  have hl : lv_has ls 1 [(0, .ref ob)] := hl
  refine lv_aload_n (pc := 0) hx hb dC_grow0_0 rfl (lv_at hl 0 rfl) ?_
  refine lv_aload_n (pc := 1) hx hb dC_grow0_1 rfl (lv_at hl 0 rfl) ?_
  refine x_getC (pc := 2) C hW 0 rfl (ci := 11) rfl i_Lst 1 (by decide) qc_319 rfl rfl dC_grow0_2 ?_
  refine lv_iconst (pc := 5) (v := 1) hx hb dC_grow0_5 (by decide) ?_
  refine lv_iadd (pc := 6) hx hb dC_grow0_6 ?_
  refine x_callC (pc := 7) (n' := 3) C hW (kC_grow1 l D dA z ob a n g mc f P hin ha hM) [0, 1, 2] rfl (by decide +kernel) rfl (ci := 11) rfl (q0 := 0) rfl gC_grow1 ⟨rfl, by decide, by decide, by decide +kernel⟩ ⟨Nat.le_of_ble_eq_true rfl, Nat.le_of_ble_eq_true rfl⟩ ⟨show 0 + 1 ≤ 1 by omega, show 0 + k.toNatClampNeg ≤ k.toNatClampNeg by omega⟩ (As := [.int (nI n + 1)]) (n := 1) rfl hl.1 rfl (Nat.le_of_ble_eq_true rfl) dC_grow0_7 (fun Wc' ov H locs hPo hWn => ?_)
  obtain ⟨q, rfl, rfl⟩ := hPo
  have hW := hWn [lobj ob q (nI n) mc, lrow dA q k.toNatClampNeg (lcpy n g k f), P] rfl rfl
  exact x_retCa (pc := 10) C rfl (Or.inr ⟨_, rfl⟩) hW ⟨q, rfl, rfl⟩ (by omega) (by omega) dC_grow0_10
theorem gC_grow0 : GoodIn lw_gd (wsV R_Lst 129 R_Lst yC_grow0 (.code yC_grow0 cC_grow0 1 (some (.array (.object "java/lang/Object"))) :: lw_gd)) := lw_GV qc_939 qc_936 qc_938 qsc_10 qc_17
/-- add: how many places the array has behind it, and whether it is a new one -/
def C_Lst_room (n g : Nat) : Option (Nat × Nat × Nat) :=
  if nI n = nI g then cr (C_Lst_cap n g) (fun k => gd (inB (nI n) k.toNatClampNeg) (some (k.toNatClampNeg, 1, k.toNatClampNeg))) else gd (!(decide (g = 0))) (gd (inB (nI n) g) (some (g, 0, 0)))
set_option maxHeartbeats 4000000 in
set_option maxRecDepth 100000 in
theorem bC_add3 {p : Program} {l : Launch} {e : Env} {s : State} {m : MethodId} {args : Array Value} {below : List Frame} {meth : Method} {c : Code} {D : va_G} {dA : Nat → ClassId} {z : Nat → Nat} {A : Nat → Prop} {R : Room} {cells slots dc ds : Nat} {Po : List va_W → Option Value → Prop} (C : CxC R_Lst p s m args meth c cC_add3 4 none D dA z A) (ob a it n g : Nat) (n1 mc : Int32) (f : Nat → Option Nat) (P : va_W) (fs : List Value) (hit : (it, .inr (4, fs)) ∈ P) (hin : inB (nI n) g = true) (hPo : Po [lobj ob a (nI n + 1) mc, lrow dA a g (va_up f (nI n).toNatClampNeg (some it)), P] none) (hc : cells ≤ dc) (hs : slots ≤ ds) (H : Heap) (locs : List Loc) (hW : WdC D A s [lobj ob a n1 mc, lrow dA a g f, P] H locs) (ls : Array Slot) (hl : lv_has ls 4 [(0, .ref ob), (1, .ref it), (2, .ref a), (3, .int (nI n))]) :
    W p l e R s m args below meth c H locs cells slots (MQ below (QC D A Po) args s dc ds A) (F0 m 11 ls []) := by
  have hx := C.1.1
  have hb := C.1.2.1
  refine lv_aload_n (pc := 11) hx hb dC_add3_11 rfl (lv_at hl 2 rfl) ?_
  refine lv_iload_n (pc := 12) hx hb dC_add3_12 rfl (lv_at hl 3 rfl) ?_
  refine lv_aload_n (pc := 13) hx hb dC_add3_13 rfl (lv_at hl 1 rfl) ?_
  obtain ⟨k, hk⟩ := List.getElem?_of_mem (show (it, .inr (4, fs)) ∈ [lobj ob a n1 mc, lrow dA a g f, P].flatten by simp [hit])
  refine va_astqO (pc := 14) hx hb C.2.1 hW.1 hW.2.1 hW.2.2 1 4 k 4 rfl rfl (ex_cast C.2.2.2) hk (r := (R_Itm, F_Itm, 9)) rfl (inB_in hin) dC_add3_14 (fun H locs hP hD hS => ?_)
  have hW : WdC D A s [lobj ob a n1 mc, lrow dA a g (va_up f (nI n).toNatClampNeg (some it)), P] H locs := ⟨hP, hD, hS⟩
  refine lv_aload_n (pc := 15) hx hb dC_add3_15 rfl (lv_at hl 0 rfl) ?_
  refine lv_iload_n (pc := 16) hx hb dC_add3_16 rfl (lv_at hl 3 rfl) ?_
  refine lv_iconst (pc := 17) (v := 1) hx hb dC_add3_17 (by decide) ?_
  refine lv_iadd (pc := 18) hx hb dC_add3_18 ?_
  refine x_putC (pc := 19) (ty := .int) (Ws' := [lobj ob a (nI n + 1) mc, lrow dA a g (va_up f (nI n).toNatClampNeg (some it)), P]) C hW 0 rfl (ci := 11) rfl i_Lst tok_Lst n_Lst 1 (by decide) qc_319 rfl rfl (by decide +kernel) rfl rfl (Nat.le_of_ble_eq_true rfl) rfl dC_add3_19 (fun H locs hW => ?_)
  exact x_retCv (pc := 22) C rfl hW hPo hc hs dC_add3_22
set_option maxHeartbeats 4000000 in
set_option maxRecDepth 100000 in
theorem kC_add3 (l : Launch) (D : va_G) (dA : Nat → ClassId) (z : Nat → Nat) (ob a it n g : Nat) (mc : Int32) (f : Nat → Option Nat) (P : va_W) (fs : List Value) (hin : inP f P) (ha : g = 0 → a = z 0) (hit : (it, .inr (4, fs)) ∈ P) {g' dc ds : Nat} (hM : C_Lst_room n g = some (g', dc, ds)) :
    KC l D dA z yC_add3 cC_add3 4 none 5 240 dc ds [lobj ob a (nI n) mc, lorow dA a g f, P] [.ref ob, .ref it, .ref a, .int (nI n)] (fun Ws' ov => ∃ q : Nat, ∃ f' : Nat → Option Nat, (f' = f ∨ ∃ k : Int32, nI n = nI g ∧ C_Lst_cap n g = some k ∧ f' = lcpy n g k f) ∧ Ws' = [lobj ob q (nI n + 1) mc, lrow dA q g' (va_up f' (nI n).toNatClampNeg (some it)), P] ∧ ov = none) := by
  refine x_enterC (by decide +kernel) (Nat.le_of_ble_eq_true rfl) (fun p e s m args below meth c A C _ hW ls hl => ?_)
  have hx := C.1.1
  have hb := C.1.2.1
  have hl : lv_has ls 4 [(0, .ref ob), (1, .ref it), (2, .ref a), (3, .int (nI n))] := hl
  refine lv_iload_n (pc := 0) hx hb dC_add3_0 rfl (lv_at hl 3 rfl) ?_
  refine lv_aload_n (pc := 1) hx hb dC_add3_1 rfl (lv_at hl 2 rfl) ?_
  have hlen : W p l e (rmC 5 240 dc ds) s m args below meth c s.heap [] 0 0 (MQ below (QC D A (fun Ws' ov => ∃ q : Nat, ∃ f' : Nat → Option Nat, (f' = f ∨ ∃ k : Int32, nI n = nI g ∧ C_Lst_cap n g = some k ∧ f' = lcpy n g k f) ∧ Ws' = [lobj ob q (nI n + 1) mc, lrow dA q g' (va_up f' (nI n).toNatClampNeg (some it)), P] ∧ ov = none)) args s dc ds A) (F0 m 3 ls [.int (nI g), .int (nI n)]) := by
    refine lv_icmp_ne (pc := 3) (tgt := 11) hx hb dC_add3_3 (by decide) (fun hc => ?_) (fun hc => ?_)
    · unfold C_Lst_room at hM
      replace hM := it_f hc hM
      obtain ⟨g1, hM⟩ := gd_some hM
      obtain ⟨g2, hM⟩ := gd_some hM
      cases hM
      simp only [Bool.not_eq_true', decide_eq_false_iff_not] at g1
      have er : lorow dA a g f = lrow dA a g f := if_neg g1
      rw [er] at hW
      exact bC_add3 C ob a it n g (nI n) mc f P fs hit g2 ⟨a, f, Or.inl rfl, rfl, rfl⟩ (Nat.le_refl 0) (Nat.le_refl 0) _ _ hW ls hl
    · unfold C_Lst_room at hM
      replace hM := it_t hc hM
      obtain ⟨k, hk, hM⟩ := cr_some hM
      obtain ⟨g2, hM⟩ := gd_some hM
      cases hM
      refine lv_aload_n (pc := 6) hx hb dC_add3_6 rfl (lv_at hl 0 rfl) ?_
      refine x_callC (pc := 7) (n' := 3) C hW (kC_grow0 l D dA z ob a n g mc f P hin ha hk) [0, 1, 2] rfl (by decide +kernel) rfl (ci := 11) rfl (q0 := 0) rfl gC_grow0 ⟨rfl, by decide, by decide, by decide +kernel⟩ ⟨Nat.le_of_ble_eq_true rfl, Nat.le_of_ble_eq_true rfl⟩ ⟨show 0 + 1 ≤ 1 by omega, show 0 + k.toNatClampNeg ≤ k.toNatClampNeg by omega⟩ (As := []) (n := 0) rfl hl.1 rfl (Nat.le_of_ble_eq_true rfl) dC_add3_7 (fun Wc' ov H locs hPo hWn => ?_)
      obtain ⟨q, rfl, rfl⟩ := hPo
      have hW := hWn [lobj ob q (nI n) mc, lrow dA q k.toNatClampNeg (lcpy n g k f), P] rfl rfl
      refine lv_astore_n (pc := 10) (lv' := [(2, .ref q), (0, .ref ob), (1, .ref it), (3, .int (nI n))]) hx hb dC_add3_10 rfl hl (by decide) rfl (fun ls hl => ?_)
      exact bC_add3 C ob q it n k.toNatClampNeg (nI n) mc _ P fs hit g2 ⟨q, _, Or.inr ⟨k, hc, hk, rfl⟩, rfl, rfl⟩ (by omega) (by omega) _ _ hW ls (lv_sub hl [1, 2, 0, 3] rfl)
  by_cases hg : g = 0
  · subst hg
    have ea := ha rfl
    subst ea
    exact va_tlen (pc := 2) (v := nI 0) hx hb C.2.2.2.t0 hW.2.2 rfl dC_add3_2 hlen
  · have er : lorow dA a g f = lrow dA a g f := if_neg hg
    have hW' := hW
    rw [er] at hW'
    exact x_alenO (pc := 2) C hW' 1 rfl dC_add3_2 hlen
theorem gC_add3 : GoodIn lw_gd (wsV R_Lst 131 R_Lst yC_add3 (.code yC_add3 cC_add3 4 none :: lw_gd)) := lw_GV qc_935 qc_932 qc_934 qsc_9 qc_17
/-- a new item stands at the list's end -/
def lpush (σ : CS) (g : Nat) : CS := (upd σ.1 0 (σ.1 0 + 1), (fun k => if k = σ.2.2 0 + 1 then (fun _ => 0) else σ.2.1 k), fun q => if q = 0 then σ.2.2 0 + 1 else if q = 1 then g else σ.2.2 q)
def C_Lst_add (σ : CS) : Option ((Int32 × CS) × (Nat × Nat)) :=
  gd (decide ((nI (σ.2.2 0)).toNatClampNeg = σ.2.2 0)) (cr (C_Lst_room (σ.2.2 0) (σ.2.2 1)) (fun r => gd (!(decide (r.1 = 0))) (some (((1 : Int32), lpush σ r.1), (r.2.1, r.2.2)))))
theorem pool_push (o i : Nat → Nat) (σ : CS) (q g : Nat) : pool o (uN i (σ.2.2 0 + 1) q) (lpush σ g) = pool o i σ ++ [(q, .inr (4, itf (fun _ => 0)))] := by
  have e : (lpush σ g).2.2 0 = σ.2.2 0 + 1 := rfl
  unfold pool
  rw [e, List.range_succ, List.map_append]
  congr 1
  · apply List.map_congr_left
    intro k hk
    have hk := List.mem_range.mp hk
    have hne : ¬ k = σ.2.2 0 + 1 := by omega
    cases k with
    | zero => simp [pa, lpush]
    | succ k =>
      have hne2 : ¬ k = σ.2.2 0 := by omega
      simp [pa, lpush, uN, hne, hne2]
  · simp [pa, lpush, uN]
theorem lfun_up (i : Nat → Nat) (n q : Nat) : va_up (lfun i n) n (some q) = lfun (uN i (n + 1) q) (n + 1) := by
  funext k
  simp only [va_up, lfun, uN]
  by_cases h : k = n
  · subst h; simp
  · have h2 : k < n + 1 ↔ k < n := by omega
    simp [h, h2]
theorem lcpy_fun {i : Nat → Nat} {n g : Nat} {k : Int32} (h : C_Lst_cap n g = some k) : lcpy n g k (lfun i n) = lfun i n := by
  unfold C_Lst_cap at h
  unfold lcpy
  by_cases hg : (0 : Int32) < nI g
  · replace h := it_t hg h
    obtain ⟨k1, hk1, h⟩ := cr_some h
    obtain ⟨-, h⟩ := gd_some h
    obtain ⟨-, h⟩ := gd_some h
    obtain ⟨-, h⟩ := gd_some h
    obtain ⟨-, h⟩ := gd_some h
    obtain ⟨-, h⟩ := gd_some h
    obtain ⟨g6, h⟩ := gd_some h
    obtain rfl := sm_i h
    have g6 := of_decide_eq_true g6
    rw [if_pos hg]
    funext j
    simp only [va_cpy, lfun, Nat.zero_le, true_and, Nat.zero_add, Nat.sub_zero]
    by_cases hj : j < (jmin (nI g) k).toNatClampNeg
    · rw [if_pos hj]
    · rw [if_neg hj, if_neg (by omega)]
  · replace h := it_f hg h
    obtain ⟨g1, h⟩ := gd_some h
    obtain ⟨g2, h⟩ := gd_some h
    have g2 := of_decide_eq_true g2
    subst g2
    rw [if_neg hg]
    funext j
    simp [lfun]
theorem lfun_inP (o i : Nat → Nat) (σ : CS) (w : va_W) : inP (lfun i (σ.2.2 0)) (pool o i σ ++ w) := by
  intro k y h
  unfold lfun at h
  split at h
  · rename_i hk
    cases h
    exact ⟨itf (σ.2.1 (k + 1)), List.mem_append_left _ (List.mem_map.mpr ⟨k + 1, List.mem_range.mpr (by omega), rfl⟩)⟩
  · cases h
set_option maxHeartbeats 4000000 in
set_option maxRecDepth 100000 in
theorem kC_Lst_add (l : Launch) (D : va_G) (dA : Nat → ClassId) (o b i : Nat → Nat) (q : Nat) (σ : CS) {r : Int32} {u : CS} {dc ds : Nat} (hM : C_Lst_add σ = some ((r, u), (dc, ds))) :
    KC l D dA (zz o) yC_Ladd cC_Ladd 2 (some .boolean) 6 280 dc ds [lobj (o 66) (lref o b σ) (nI (σ.2.2 0)) (σ.1 0), larr dA b i σ, pool o i σ ++ [(q, .inr (4, itf (fun _ => 0)))]] [.ref (o 66), .ref q] (fun Ws' ov => ∃ b' i' : Nat → Nat, Ws' = c_Pol dA o b' i' u ∧ ov = some (.int r)) := by
  unfold C_Lst_add at hM
  obtain ⟨g1, hM⟩ := gd_some hM
  obtain ⟨⟨g', dc', ds'⟩, hr, hM⟩ := cr_some hM
  obtain ⟨g2, hM⟩ := gd_some hM
  obtain ⟨rfl, rfl, rfl, rfl⟩ := sm_q hM
  have g1 := of_decide_eq_true g1
  simp only [Bool.not_eq_true', decide_eq_false_iff_not] at g2
  have hlr : larr dA b i σ = lorow dA (lref o b σ) (σ.2.2 1) (lfun i (σ.2.2 0)) := by
    unfold larr lorow lref
    by_cases h : σ.2.2 1 = 0
    · rw [if_pos h, if_pos h]
    · rw [if_neg h, if_neg h, if_neg h]
  have hla : σ.2.2 1 = 0 → lref o b σ = zz o 0 := fun h => if_pos h
  rw [hlr]
  generalize lref o b σ = a at hla ⊢
  refine x_enterC (by decide +kernel) (Nat.le_of_ble_eq_true rfl) (fun p e s m args below meth c A C _ hW ls hl => ?_)
  have hx := C.1.1
  have hb := C.1.2.1
  have hl : lv_has ls 2 [(0, .ref (o 66)), (1, .ref q)] := hl
  refine lv_aload_n (pc := 0) hx hb dC_Ladd_0 rfl (lv_at hl 0 rfl) ?_
  refine lv_dup (pc := 1) hx hb dC_Ladd_1 rfl ?_
  refine x_getCs (pc := 2) C hW 0 rfl (ci := 11) rfl i_Lst 2 (by decide) qc_321 qc_322 rfl dC_Ladd_2 ?_
  refine lv_iconst (pc := 5) (v := 1) hx hb dC_Ladd_5 (by decide) ?_
  refine lv_iadd (pc := 6) hx hb dC_Ladd_6 ?_
  refine x_putCs (pc := 7) (ty := .int) (Ws' := [lobj (o 66) a (nI (σ.2.2 0)) (σ.1 0 + 1), lorow dA a (σ.2.2 1) (lfun i (σ.2.2 0)), pool o i σ ++ [(q, .inr (4, itf (fun _ => 0)))]]) C hW 0 rfl (ci := 11) rfl i_Lst tok_Lst n_Lst 2 (by decide) qc_321 qc_322 rfl (by decide +kernel) rfl rfl (Nat.le_of_ble_eq_true rfl) rfl dC_Ladd_7 (fun H locs hW => ?_)
  refine lv_aload_n (pc := 10) hx hb dC_Ladd_10 rfl (lv_at hl 0 rfl) ?_
  refine lv_aload_n (pc := 11) hx hb dC_Ladd_11 rfl (lv_at hl 1 rfl) ?_
  refine lv_aload_n (pc := 12) hx hb dC_Ladd_12 rfl (lv_at hl 0 rfl) ?_
  refine x_getC (pc := 13) C hW 0 rfl (ci := 11) rfl i_Lst 0 (by decide) qc_318 rfl rfl dC_Ladd_13 ?_
  refine lv_aload_n (pc := 16) hx hb dC_Ladd_16 rfl (lv_at hl 0 rfl) ?_
  refine x_getC (pc := 17) C hW 0 rfl (ci := 11) rfl i_Lst 1 (by decide) qc_319 rfl rfl dC_Ladd_17 ?_
  refine x_callC (pc := 20) (n' := 3) C hW (kC_add3 l D dA (zz o) (o 66) a q (σ.2.2 0) (σ.2.2 1) (σ.1 0 + 1) (lfun i (σ.2.2 0)) (pool o i σ ++ [(q, .inr (4, itf (fun _ => 0)))]) _ (lfun_inP o i σ _) hla (List.mem_append_right _ List.mem_cons_self) hr) [0, 1, 2] rfl (by decide +kernel) rfl (ci := 11) rfl (q0 := 0) rfl gC_add3 ⟨rfl, by decide, by decide, by decide +kernel⟩ ⟨Nat.le_of_ble_eq_true rfl, Nat.le_of_ble_eq_true rfl⟩ ⟨show 0 + dc ≤ dc by omega, show 0 + ds ≤ ds by omega⟩ (As := [.ref q, .ref a, .int (nI (σ.2.2 0))]) (n := 3) rfl hl.1 rfl (Nat.le_of_ble_eq_true rfl) dC_Ladd_20 (fun Wc' ov H locs hPo hWn => ?_)
  obtain ⟨a', f', hf', rfl, rfl⟩ := hPo
  have hff : f' = lfun i (σ.2.2 0) := by
    rcases hf' with h | ⟨k, -, hk, h⟩
    · exact h
    · rw [h]; exact lcpy_fun hk
  subst hff
  have hW := hWn [lobj (o 66) a' (nI (σ.2.2 0) + 1) (σ.1 0 + 1), lrow dA a' g' (va_up (lfun i (σ.2.2 0)) (nI (σ.2.2 0)).toNatClampNeg (some q)), pool o i σ ++ [(q, .inr (4, itf (fun _ => 0)))]] rfl rfl
  rw [g1, lfun_up, ← pool_push o i σ q g'] at hW
  refine lv_iconst (pc := 23) (v := 1) hx hb dC_Ladd_23 (by decide) ?_
  refine x_retCz (pc := 24) C rfl rfl hW ⟨uN b 66 a', uN i (σ.2.2 0 + 1) q, ?_, rfl⟩ (by omega) (by omega) dC_Ladd_24
  have hne : ¬ (lpush σ g').2.2 1 = 0 := g2
  have e1 : lref o (uN b 66 a') (lpush σ g') = a' := if_neg hne
  have e2 : larr dA (uN b 66 a') (uN i (σ.2.2 0 + 1) q) (lpush σ g') = lrow dA a' g' (lfun (uN i (σ.2.2 0 + 1) q) (σ.2.2 0 + 1)) := if_neg hne
  have e3 : nI ((lpush σ g').2.2 0) = nI (σ.2.2 0) + 1 := (nI_1 _).symm
  rw [c_Pol, e1, e2, e3]
  rfl
/-- a new Item, put behind all others -/
def C_Lst_new (σ : CS) : Option ((Int32 × CS) × (Nat × Nat)) := (C_Lst_add σ).map (fun q => (q.1, (q.2.1 + 1, q.2.2 + 9)))
theorem new_some {σ u : CS} {r : Int32} {d e : Nat} (h : C_Lst_new σ = some ((r, u), (d, e))) : ∃ dz ez, C_Lst_add σ = some ((r, u), (dz, ez)) ∧ d = dz + 1 ∧ e = ez + 9 := by
  unfold C_Lst_new at h
  cases hq : C_Lst_add σ with
  | none => rw [hq] at h; cases h
  | some q =>
    rw [hq] at h
    obtain ⟨⟨r', u'⟩, ⟨dz, ez⟩⟩ := q
    cases h
    exact ⟨dz, ez, rfl, rfl, rfl⟩
theorem def_Itm : ∀ j, j < (R_Itm, F_Itm, 9).2.2 → defaultValue (t_Itm j) = vp_V (itf (fun _ => 0)) j
  | 0, _ => rfl
  | 1, _ => rfl
  | 2, _ => rfl
  | 3, _ => rfl
  | 4, _ => rfl
  | 5, _ => rfl
  | 6, _ => rfl
  | 7, _ => rfl
  | 8, _ => rfl
  | (n + 9), h => absurd h (by show ¬ n + 9 < 9; omega)
