abbrev c_Prg (dA : Nat → ClassId) (o b i : Nat → Nat) (σ : CS) : List va_W := [[(o 64, .inr (5, [.ref (o 65), .int (σ.1 0), .int (σ.1 1), .int (σ.1 2), .int (σ.1 3), .int (σ.1 4), .int (σ.1 5), .int (σ.1 6), .int (σ.1 7), .ref (o 66), .ref (o 68), .ref (b 67)]))], [(o 65, .inr (1, [.int (σ.1 100), .ref (b 65)]))], [(b 65, .inl (dA 2, σ.2.2 0, .inl (σ.2.1 0)))], [(b 67, .inl (dA 2, σ.2.2 20, .inl (σ.2.1 20)))]]
abbrev c_Frm (dA : Nat → ClassId) (o b : Nat → Nat) (σ : CS) : List va_W := [[(o 96, .inr (7, [.int (σ.1 0), .int (σ.1 1), .ref (o 16), .ref (o 32), .ref (o 64), .ref (o 97), .ref (o 98), .ref (o 99), .ref (o 100), .int (σ.1 2), .int (σ.1 3), .int (σ.1 4), .int (σ.1 5)]))], [(o 97, .inr (1, [.int (σ.1 100), .ref (b 97)]))], [(b 97, .inl (dA 2, σ.2.2 0, .inl (σ.2.1 0)))], [(o 98, .inr (1, [.int (σ.1 101), .ref (b 98)]))], [(b 98, .inl (dA 2, σ.2.2 1, .inl (σ.2.1 1)))], [(o 99, .inr (1, [.int (σ.1 102), .ref (b 99)]))], [(b 99, .inl (dA 2, σ.2.2 2, .inl (σ.2.1 2)))], [(o 100, .inr (1, [.int (σ.1 103), .ref (b 100)]))], [(b 100, .inl (dA 2, σ.2.2 3, .inl (σ.2.1 3)))]]
abbrev c_Enc (dA : Nat → ClassId) (o b : Nat → Nat) (σ : CS) : List va_W := [[(o 128, .inr (9, [.ref (o 129), .ref (o 130), .int (σ.1 0), .ref (o 64), .ref (o 96), .ref (o 48)]))], [(o 129, .inr (1, [.int (σ.1 100), .ref (b 129)]))], [(b 129, .inl (dA 2, σ.2.2 0, .inl (σ.2.1 0)))], [(o 130, .inr (1, [.int (σ.1 101), .ref (b 130)]))], [(b 130, .inl (dA 2, σ.2.2 1, .inl (σ.2.1 1)))]]
abbrev w_Prg (dA : Nat → ClassId) (o b i : Nat → Nat) (sP sI : CS) : List va_W := [[(o 64, .inr (5, [.ref (o 65), .int (sP.1 0), .int (sP.1 1), .int (sP.1 2), .int (sP.1 3), .int (sP.1 4), .int (sP.1 5), .int (sP.1 6), .int (sP.1 7), .ref (o 66), .ref (o 68), .ref (b 67)]))], [(o 65, .inr (1, [.int (sP.1 100), .ref (b 65)]))], [(b 65, .inl (dA 2, sP.2.2 0, .inl (sP.2.1 0)))], [(b 67, .inl (dA 2, sP.2.2 20, .inl (sP.2.1 20)))], [(o 66, .inr (11, [.ref (lref o b sI), .int (nI (sI.2.2 0)), .int (sI.1 0)]))], larr dA b i sI, pool o i sI]
abbrev w_Frm (dA : Nat → ClassId) (o b i : Nat → Nat) (sF sN sT sP sI : CS) : List va_W := [[(o 96, .inr (7, [.int (sF.1 0), .int (sF.1 1), .ref (o 16), .ref (o 32), .ref (o 64), .ref (o 97), .ref (o 98), .ref (o 99), .ref (o 100), .int (sF.1 2), .int (sF.1 3), .int (sF.1 4), .int (sF.1 5)]))], [(o 97, .inr (1, [.int (sF.1 100), .ref (b 97)]))], [(b 97, .inl (dA 2, sF.2.2 0, .inl (sF.2.1 0)))], [(o 98, .inr (1, [.int (sF.1 101), .ref (b 98)]))], [(b 98, .inl (dA 2, sF.2.2 1, .inl (sF.2.1 1)))], [(o 99, .inr (1, [.int (sF.1 102), .ref (b 99)]))], [(b 99, .inl (dA 2, sF.2.2 2, .inl (sF.2.1 2)))], [(o 100, .inr (1, [.int (sF.1 103), .ref (b 100)]))], [(b 100, .inl (dA 2, sF.2.2 3, .inl (sF.2.1 3)))], [(o 16, .inr (2, [.ref (o 17), .ref (o 18), .ref (o 19), .ref (o 20), .ref (o 21), .int (sN.1 1), .int (sN.1 2), .int (sN.1 3), .ref (b 26), .ref (o 22), .ref (o 23), .ref (o 24), .ref (o 25), .int (sN.1 4), .int (sN.1 0)]))], [(o 17, .inr (1, [.int (sN.1 100), .ref (b 17)]))], [(b 17, .inl (dA 2, sN.2.2 0, .inl (sN.2.1 0)))], [(o 18, .inr (1, [.int (sN.1 101), .ref (b 18)]))], [(b 18, .inl (dA 2, sN.2.2 1, .inl (sN.2.1 1)))], [(o 19, .inr (1, [.int (sN.1 102), .ref (b 19)]))], [(b 19, .inl (dA 2, sN.2.2 2, .inl (sN.2.1 2)))], [(o 20, .inr (1, [.int (sN.1 103), .ref (b 20)]))], [(b 20, .inl (dA 2, sN.2.2 3, .inl (sN.2.1 3)))], [(o 21, .inr (1, [.int (sN.1 104), .ref (b 21)]))], [(b 21, .inl (dA 2, sN.2.2 4, .inl (sN.2.1 4)))], [(o 22, .inr (1, [.int (sN.1 105), .ref (b 22)]))], [(b 22, .inl (dA 2, sN.2.2 5, .inl (sN.2.1 5)))], [(o 23, .inr (1, [.int (sN.1 106), .ref (b 23)]))], [(b 23, .inl (dA 2, sN.2.2 6, .inl (sN.2.1 6)))], [(o 24, .inr (1, [.int (sN.1 107), .ref (b 24)]))], [(b 24, .inl (dA 2, sN.2.2 7, .inl (sN.2.1 7)))], [(o 25, .inr (1, [.int (sN.1 108), .ref (b 25)]))], [(b 25, .inl (dA 2, sN.2.2 8, .inl (sN.2.1 8)))], [(b 26, .inl (dA 2, sN.2.2 20, .inl (sN.2.1 20)))], [(o 32, .inr (3, [.int (sT.1 0), .int (sT.1 1), .int (sT.1 2), .ref (b 32), .ref (b 33), .ref (b 34)]))], [(b 32, .inl (dA 2, sT.2.2 0, .inl (sT.2.1 0)))], [(b 33, .inl (dA 2, sT.2.2 1, .inl (sT.2.1 1)))], [(b 34, .inl (dA 2, sT.2.2 2, .inl (sT.2.1 2)))], [(o 64, .inr (5, [.ref (o 65), .int (sP.1 0), .int (sP.1 1), .int (sP.1 2), .int (sP.1 3), .int (sP.1 4), .int (sP.1 5), .int (sP.1 6), .int (sP.1 7), .ref (o 66), .ref (o 68), .ref (b 67)]))], [(o 65, .inr (1, [.int (sP.1 100), .ref (b 65)]))], [(b 65, .inl (dA 2, sP.2.2 0, .inl (sP.2.1 0)))], [(b 67, .inl (dA 2, sP.2.2 20, .inl (sP.2.1 20)))], [(o 66, .inr (11, [.ref (lref o b sI), .int (nI (sI.2.2 0)), .int (sI.1 0)]))], larr dA b i sI, pool o i sI]
abbrev w_Enc (dA : Nat → ClassId) (o b i : Nat → Nat) (sE sY sF sN sT sP sI : CS) : List va_W := [[(o 128, .inr (9, [.ref (o 129), .ref (o 130), .int (sE.1 0), .ref (o 64), .ref (o 96), .ref (o 48)]))], [(o 129, .inr (1, [.int (sE.1 100), .ref (b 129)]))], [(b 129, .inl (dA 2, sE.2.2 0, .inl (sE.2.1 0)))], [(o 130, .inr (1, [.int (sE.1 101), .ref (b 130)]))], [(b 130, .inl (dA 2, sE.2.2 1, .inl (sE.2.1 1)))], [(o 48, .inr (1, [.int (sY.1 0), .ref (b 48)]))], [(b 48, .inl (dA 2, sY.2.2 0, .inl (sY.2.1 0)))], [(o 96, .inr (7, [.int (sF.1 0), .int (sF.1 1), .ref (o 16), .ref (o 32), .ref (o 64), .ref (o 97), .ref (o 98), .ref (o 99), .ref (o 100), .int (sF.1 2), .int (sF.1 3), .int (sF.1 4), .int (sF.1 5)]))], [(o 97, .inr (1, [.int (sF.1 100), .ref (b 97)]))], [(b 97, .inl (dA 2, sF.2.2 0, .inl (sF.2.1 0)))], [(o 98, .inr (1, [.int (sF.1 101), .ref (b 98)]))], [(b 98, .inl (dA 2, sF.2.2 1, .inl (sF.2.1 1)))], [(o 99, .inr (1, [.int (sF.1 102), .ref (b 99)]))], [(b 99, .inl (dA 2, sF.2.2 2, .inl (sF.2.1 2)))], [(o 100, .inr (1, [.int (sF.1 103), .ref (b 100)]))], [(b 100, .inl (dA 2, sF.2.2 3, .inl (sF.2.1 3)))], [(o 16, .inr (2, [.ref (o 17), .ref (o 18), .ref (o 19), .ref (o 20), .ref (o 21), .int (sN.1 1), .int (sN.1 2), .int (sN.1 3), .ref (b 26), .ref (o 22), .ref (o 23), .ref (o 24), .ref (o 25), .int (sN.1 4), .int (sN.1 0)]))], [(o 17, .inr (1, [.int (sN.1 100), .ref (b 17)]))], [(b 17, .inl (dA 2, sN.2.2 0, .inl (sN.2.1 0)))], [(o 18, .inr (1, [.int (sN.1 101), .ref (b 18)]))], [(b 18, .inl (dA 2, sN.2.2 1, .inl (sN.2.1 1)))], [(o 19, .inr (1, [.int (sN.1 102), .ref (b 19)]))], [(b 19, .inl (dA 2, sN.2.2 2, .inl (sN.2.1 2)))], [(o 20, .inr (1, [.int (sN.1 103), .ref (b 20)]))], [(b 20, .inl (dA 2, sN.2.2 3, .inl (sN.2.1 3)))], [(o 21, .inr (1, [.int (sN.1 104), .ref (b 21)]))], [(b 21, .inl (dA 2, sN.2.2 4, .inl (sN.2.1 4)))], [(o 22, .inr (1, [.int (sN.1 105), .ref (b 22)]))], [(b 22, .inl (dA 2, sN.2.2 5, .inl (sN.2.1 5)))], [(o 23, .inr (1, [.int (sN.1 106), .ref (b 23)]))], [(b 23, .inl (dA 2, sN.2.2 6, .inl (sN.2.1 6)))], [(o 24, .inr (1, [.int (sN.1 107), .ref (b 24)]))], [(b 24, .inl (dA 2, sN.2.2 7, .inl (sN.2.1 7)))], [(o 25, .inr (1, [.int (sN.1 108), .ref (b 25)]))], [(b 25, .inl (dA 2, sN.2.2 8, .inl (sN.2.1 8)))], [(b 26, .inl (dA 2, sN.2.2 20, .inl (sN.2.1 20)))], [(o 32, .inr (3, [.int (sT.1 0), .int (sT.1 1), .int (sT.1 2), .ref (b 32), .ref (b 33), .ref (b 34)]))], [(b 32, .inl (dA 2, sT.2.2 0, .inl (sT.2.1 0)))], [(b 33, .inl (dA 2, sT.2.2 1, .inl (sT.2.1 1)))], [(b 34, .inl (dA 2, sT.2.2 2, .inl (sT.2.1 2)))], [(o 64, .inr (5, [.ref (o 65), .int (sP.1 0), .int (sP.1 1), .int (sP.1 2), .int (sP.1 3), .int (sP.1 4), .int (sP.1 5), .int (sP.1 6), .int (sP.1 7), .ref (o 66), .ref (o 68), .ref (b 67)]))], [(o 65, .inr (1, [.int (sP.1 100), .ref (b 65)]))], [(b 65, .inl (dA 2, sP.2.2 0, .inl (sP.2.1 0)))], [(b 67, .inl (dA 2, sP.2.2 20, .inl (sP.2.1 20)))], [(o 66, .inr (11, [.ref (lref o b sI), .int (nI (sI.2.2 0)), .int (sI.1 0)]))], larr dA b i sI, pool o i sI]
theorem qc_14 : (Jvm.Cond.initialized "LineAssembler$Program") ∈ lw_gd := uc_0 (List.mem_of_getElem? (i := 14) (by decide +kernel)) (by decide +kernel)
theorem qc_330 : (Jvm.Cond.classLink "LineAssembler$Program" (51 : Nat) "LineAssembler$Item") ∈ lw_gd := uc_1 (List.mem_of_getElem? (i := 90) (by decide +kernel)) (by decide +kernel)
theorem qc_340 : (Jvm.Cond.fieldLink "LineAssembler$Program" (82 : Nat) "LineAssembler$Item" "inData" "Z") ∈ lw_gd := uc_1 (List.mem_of_getElem? (i := 100) (by decide +kernel)) (by decide +kernel)
theorem qc_343 : (Jvm.Cond.fieldLink "LineAssembler$Program" (83 : Nat) "LineAssembler$Item" "mark" "I") ∈ lw_gd := uc_1 (List.mem_of_getElem? (i := 103) (by decide +kernel)) (by decide +kernel)
theorem qc_345 : (Jvm.Cond.fieldLink "LineAssembler$Program" (86 : Nat) "LineAssembler$Item" "word" "I") ∈ lw_gd := uc_1 (List.mem_of_getElem? (i := 105) (by decide +kernel)) (by decide +kernel)
theorem qc_351 : (Jvm.Cond.fieldLink "LineAssembler$Program" (89 : Nat) "LineAssembler$Item" "length" "I") ∈ lw_gd := uc_1 (List.mem_of_getElem? (i := 111) (by decide +kernel)) (by decide +kernel)
theorem qc_353 : (Jvm.Cond.fieldLink "LineAssembler$Program" (92 : Nat) "LineAssembler$Item" "offset" "I") ∈ lw_gd := uc_1 (List.mem_of_getElem? (i := 113) (by decide +kernel)) (by decide +kernel)
theorem qc_390 : (Jvm.Cond.fieldLink "LineAssembler$Program" (22 : Nat) "LineAssembler$Program" "count" "I") ∈ lw_gd := uc_1 (List.mem_of_getElem? (i := 150) (by decide +kernel)) (by decide +kernel)
theorem qc_393 : (Jvm.Cond.fieldLink "LineAssembler$Program" (25 : Nat) "LineAssembler$Program" "textEnd" "I") ∈ lw_gd := uc_1 (List.mem_of_getElem? (i := 153) (by decide +kernel)) (by decide +kernel)
theorem qc_395 : (Jvm.Cond.fieldLink "LineAssembler$Program" (28 : Nat) "LineAssembler$Program" "dataBegin" "I") ∈ lw_gd := uc_1 (List.mem_of_getElem? (i := 155) (by decide +kernel)) (by decide +kernel)
theorem qc_403 : (Jvm.Cond.fieldLink "LineAssembler$Program" (41 : Nat) "LineAssembler$Program" "dataLength" "I") ∈ lw_gd := uc_1 (List.mem_of_getElem? (i := 163) (by decide +kernel)) (by decide +kernel)
theorem qc_404 : (Jvm.Cond.fieldLink "LineAssembler$Program" (47 : Nat) "LineAssembler$Program" "items" "Ljava/util/ArrayList;") ∈ lw_gd := uc_1 (List.mem_of_getElem? (i := 164) (by decide +kernel)) (by decide +kernel)
theorem qc_405 : (Jvm.Cond.fieldLink "LineAssembler$Program" (54 : Nat) "LineAssembler$Program" "none" "LLineAssembler$Item;") ∈ lw_gd := uc_1 (List.mem_of_getElem? (i := 165) (by decide +kernel)) (by decide +kernel)
theorem qc_406 : (Jvm.Cond.fieldLink "LineAssembler$Program" (58 : Nat) "LineAssembler$Program" "nearest" "[I") ∈ lw_gd := uc_1 (List.mem_of_getElem? (i := 166) (by decide +kernel)) (by decide +kernel)
theorem qc_924 : (Jvm.Cond.methodLink "LineAssembler$Program" (70 : Nat) ({ cls := "java/util/ArrayList", name := "size", desc := "()I" } : Jvm.MethodName)) ∈ lw_gd := uc_3 (List.mem_of_getElem? (i := 204) (by decide +kernel)) (by decide +kernel)
theorem qc_925 : (Jvm.Cond.instanceMethod ({ cls := "java/util/ArrayList", name := "size", desc := "()I" } : Jvm.MethodName)) ∈ lw_gd := uc_3 (List.mem_of_getElem? (i := 205) (by decide +kernel)) (by decide +kernel)
theorem qc_926 : (Jvm.Cond.selects "java/util/ArrayList" ({ cls := "java/util/ArrayList", name := "size", desc := "()I" } : Jvm.MethodName) ({ cls := "java/util/ArrayList", name := "size", desc := "()I" } : Jvm.MethodName)) ∈ lw_gd := uc_3 (List.mem_of_getElem? (i := 206) (by decide +kernel)) (by decide +kernel)
theorem qc_927 : (Jvm.Cond.code ({ cls := "java/util/ArrayList", name := "size", desc := "()I" } : Jvm.MethodName) prog_37_method_8_code (1 : Nat) (Option.some Jvm.ClassFile.FieldType.int)) ∈ lw_gd := uc_3 (List.mem_of_getElem? (i := 207) (by decide +kernel)) (by decide +kernel)
theorem qc_979 : (Jvm.Cond.methodLink "LineAssembler$Program" (77 : Nat) ({ cls := "java/util/ArrayList", name := "get", desc := "(I)Ljava/lang/Object;" } : Jvm.MethodName)) ∈ lw_gd := uc_4 (List.mem_of_getElem? (i := 19) (by decide +kernel)) (by decide +kernel)
theorem qc_980 : (Jvm.Cond.instanceMethod ({ cls := "java/util/ArrayList", name := "get", desc := "(I)Ljava/lang/Object;" } : Jvm.MethodName)) ∈ lw_gd := uc_4 (List.mem_of_getElem? (i := 20) (by decide +kernel)) (by decide +kernel)
theorem qc_981 : (Jvm.Cond.selects "java/util/ArrayList" ({ cls := "java/util/ArrayList", name := "get", desc := "(I)Ljava/lang/Object;" } : Jvm.MethodName) ({ cls := "java/util/ArrayList", name := "get", desc := "(I)Ljava/lang/Object;" } : Jvm.MethodName)) ∈ lw_gd := uc_4 (List.mem_of_getElem? (i := 21) (by decide +kernel)) (by decide +kernel)
theorem qc_982 : (Jvm.Cond.code ({ cls := "java/util/ArrayList", name := "get", desc := "(I)Ljava/lang/Object;" } : Jvm.MethodName) prog_37_method_20_code (2 : Nat) (Option.some (Jvm.ClassFile.FieldType.object "java/lang/Object"))) ∈ lw_gd := uc_4 (List.mem_of_getElem? (i := 22) (by decide +kernel)) (by decide +kernel)
theorem qc_1099 : (Jvm.Cond.methodLink "LineAssembler$Program" (102 : Nat) ({ cls := "LineAssembler$Program", name := "find", desc := "(I)LLineAssembler$Item;" } : Jvm.MethodName)) ∈ lw_gd := uc_4 (List.mem_of_getElem? (i := 139) (by decide +kernel)) (by decide +kernel)
theorem qc_1100 : (Jvm.Cond.instanceMethod ({ cls := "LineAssembler$Program", name := "find", desc := "(I)LLineAssembler$Item;" } : Jvm.MethodName)) ∈ lw_gd := uc_4 (List.mem_of_getElem? (i := 140) (by decide +kernel)) (by decide +kernel)
theorem qc_1101 : (Jvm.Cond.selects "LineAssembler$Program" ({ cls := "LineAssembler$Program", name := "find", desc := "(I)LLineAssembler$Item;" } : Jvm.MethodName) ({ cls := "LineAssembler$Program", name := "find", desc := "(I)LLineAssembler$Item;" } : Jvm.MethodName)) ∈ lw_gd := uc_4 (List.mem_of_getElem? (i := 141) (by decide +kernel)) (by decide +kernel)
theorem qc_1102 : (Jvm.Cond.code ({ cls := "LineAssembler$Program", name := "find", desc := "(I)LLineAssembler$Item;" } : Jvm.MethodName) prog_10_method_4_code (2 : Nat) (Option.some (Jvm.ClassFile.FieldType.object "LineAssembler$Item"))) ∈ lw_gd := uc_4 (List.mem_of_getElem? (i := 142) (by decide +kernel)) (by decide +kernel)
abbrev cC_Prg_find : ByteArray := prog_10_method_4_code
def yC_Prg_find : MethodName := ⟨R_Prg, "find", "(I)LLineAssembler$Item;"⟩
theorem dC_Prg_find_0 : decode cC_Prg_find 0 = .ok (.iload_n 1, 1) := by decide +kernel
theorem dC_Prg_find_1 : decode cC_Prg_find 1 = .ok (.ifCond .lt (36), 3) := by decide +kernel
theorem dC_Prg_find_4 : decode cC_Prg_find 4 = .ok (.iload_n 1, 1) := by decide +kernel
theorem dC_Prg_find_5 : decode cC_Prg_find 5 = .ok (.aload_n 0, 1) := by decide +kernel
theorem dC_Prg_find_6 : decode cC_Prg_find 6 = .ok (.getfield 22, 3) := by decide +kernel
theorem dC_Prg_find_9 : decode cC_Prg_find 9 = .ok (.if_icmp .ge (28), 3) := by decide +kernel
theorem dC_Prg_find_12 : decode cC_Prg_find 12 = .ok (.iload_n 1, 1) := by decide +kernel
theorem dC_Prg_find_13 : decode cC_Prg_find 13 = .ok (.aload_n 0, 1) := by decide +kernel
theorem dC_Prg_find_14 : decode cC_Prg_find 14 = .ok (.getfield 47, 3) := by decide +kernel
theorem dC_Prg_find_17 : decode cC_Prg_find 17 = .ok (.invokevirtual 70, 3) := by decide +kernel
theorem dC_Prg_find_20 : decode cC_Prg_find 20 = .ok (.if_icmp .ge (17), 3) := by decide +kernel
theorem dC_Prg_find_23 : decode cC_Prg_find 23 = .ok (.aload_n 0, 1) := by decide +kernel
theorem dC_Prg_find_24 : decode cC_Prg_find 24 = .ok (.getfield 47, 3) := by decide +kernel
theorem dC_Prg_find_27 : decode cC_Prg_find 27 = .ok (.iload_n 1, 1) := by decide +kernel
theorem dC_Prg_find_28 : decode cC_Prg_find 28 = .ok (.invokevirtual 77, 3) := by decide +kernel
theorem dC_Prg_find_31 : decode cC_Prg_find 31 = .ok (.checkcast 51, 3) := by decide +kernel
theorem dC_Prg_find_34 : decode cC_Prg_find 34 = .ok (.goto (7), 3) := by decide +kernel
theorem dC_Prg_find_37 : decode cC_Prg_find 37 = .ok (.aload_n 0, 1) := by decide +kernel
theorem dC_Prg_find_38 : decode cC_Prg_find 38 = .ok (.getfield 54, 3) := by decide +kernel
theorem dC_Prg_find_41 : decode cC_Prg_find 41 = .ok (.areturn, 1) := by decide +kernel
abbrev cC_Prg_latest : ByteArray := prog_10_method_6_code
def yC_Prg_latest : MethodName := ⟨R_Prg, "latest", "(I)I"⟩
theorem dC_Prg_latest_0 : decode cC_Prg_latest 0 = .ok (.iload_n 1, 1) := by decide +kernel
theorem dC_Prg_latest_1 : decode cC_Prg_latest 1 = .ok (.ifCond .lt (21), 3) := by decide +kernel
theorem dC_Prg_latest_4 : decode cC_Prg_latest 4 = .ok (.iload_n 1, 1) := by decide +kernel
theorem dC_Prg_latest_5 : decode cC_Prg_latest 5 = .ok (.aload_n 0, 1) := by decide +kernel
theorem dC_Prg_latest_6 : decode cC_Prg_latest 6 = .ok (.getfield 58, 3) := by decide +kernel
theorem dC_Prg_latest_9 : decode cC_Prg_latest 9 = .ok (.arraylength, 1) := by decide +kernel
theorem dC_Prg_latest_10 : decode cC_Prg_latest 10 = .ok (.if_icmp .ge (12), 3) := by decide +kernel
theorem dC_Prg_latest_13 : decode cC_Prg_latest 13 = .ok (.aload_n 0, 1) := by decide +kernel
theorem dC_Prg_latest_14 : decode cC_Prg_latest 14 = .ok (.getfield 58, 3) := by decide +kernel
theorem dC_Prg_latest_17 : decode cC_Prg_latest 17 = .ok (.iload_n 1, 1) := by decide +kernel
theorem dC_Prg_latest_18 : decode cC_Prg_latest 18 = .ok (.iaload, 1) := by decide +kernel
theorem dC_Prg_latest_19 : decode cC_Prg_latest 19 = .ok (.goto (4), 3) := by decide +kernel
theorem dC_Prg_latest_22 : decode cC_Prg_latest 22 = .ok (.iconst (0), 1) := by decide +kernel
theorem dC_Prg_latest_23 : decode cC_Prg_latest 23 = .ok (.ireturn, 1) := by decide +kernel
abbrev cC_Prg_isInText : ByteArray := prog_10_method_7_code
def yC_Prg_isInText : MethodName := ⟨R_Prg, "isInText", "(I)Z"⟩
theorem dC_Prg_isInText_0 : decode cC_Prg_isInText 0 = .ok (.iload_n 1, 1) := by decide +kernel
theorem dC_Prg_isInText_1 : decode cC_Prg_isInText 1 = .ok (.aload_n 0, 1) := by decide +kernel
theorem dC_Prg_isInText_2 : decode cC_Prg_isInText 2 = .ok (.getfield 58, 3) := by decide +kernel
theorem dC_Prg_isInText_5 : decode cC_Prg_isInText 5 = .ok (.arraylength, 1) := by decide +kernel
theorem dC_Prg_isInText_6 : decode cC_Prg_isInText 6 = .ok (.if_icmp .lt (7), 3) := by decide +kernel
theorem dC_Prg_isInText_9 : decode cC_Prg_isInText 9 = .ok (.iconst (1), 1) := by decide +kernel
theorem dC_Prg_isInText_10 : decode cC_Prg_isInText 10 = .ok (.goto (4), 3) := by decide +kernel
theorem dC_Prg_isInText_13 : decode cC_Prg_isInText 13 = .ok (.iconst (0), 1) := by decide +kernel
theorem dC_Prg_isInText_14 : decode cC_Prg_isInText 14 = .ok (.ireturn, 1) := by decide +kernel
abbrev cC_Prg_addressOf : ByteArray := prog_10_method_8_code
def yC_Prg_addressOf : MethodName := ⟨R_Prg, "addressOf", "(I)I"⟩
theorem dC_Prg_addressOf_0 : decode cC_Prg_addressOf 0 = .ok (.iload_n 1, 1) := by decide +kernel
theorem dC_Prg_addressOf_1 : decode cC_Prg_addressOf 1 = .ok (.ifCond .lt (22), 3) := by decide +kernel
theorem dC_Prg_addressOf_4 : decode cC_Prg_addressOf 4 = .ok (.iload_n 1, 1) := by decide +kernel
theorem dC_Prg_addressOf_5 : decode cC_Prg_addressOf 5 = .ok (.aload_n 0, 1) := by decide +kernel
theorem dC_Prg_addressOf_6 : decode cC_Prg_addressOf 6 = .ok (.getfield 22, 3) := by decide +kernel
theorem dC_Prg_addressOf_9 : decode cC_Prg_addressOf 9 = .ok (.if_icmp .ge (14), 3) := by decide +kernel
theorem dC_Prg_addressOf_12 : decode cC_Prg_addressOf 12 = .ok (.iload_n 1, 1) := by decide +kernel
theorem dC_Prg_addressOf_13 : decode cC_Prg_addressOf 13 = .ok (.aload_n 0, 1) := by decide +kernel
theorem dC_Prg_addressOf_14 : decode cC_Prg_addressOf 14 = .ok (.getfield 47, 3) := by decide +kernel
theorem dC_Prg_addressOf_17 : decode cC_Prg_addressOf 17 = .ok (.invokevirtual 70, 3) := by decide +kernel
theorem dC_Prg_addressOf_20 : decode cC_Prg_addressOf 20 = .ok (.if_icmp .lt (5), 3) := by decide +kernel
theorem dC_Prg_addressOf_23 : decode cC_Prg_addressOf 23 = .ok (.iconst (0), 1) := by decide +kernel
theorem dC_Prg_addressOf_24 : decode cC_Prg_addressOf 24 = .ok (.ireturn, 1) := by decide +kernel
theorem dC_Prg_addressOf_25 : decode cC_Prg_addressOf 25 = .ok (.aload_n 0, 1) := by decide +kernel
theorem dC_Prg_addressOf_26 : decode cC_Prg_addressOf 26 = .ok (.getfield 47, 3) := by decide +kernel
theorem dC_Prg_addressOf_29 : decode cC_Prg_addressOf 29 = .ok (.iload_n 1, 1) := by decide +kernel
theorem dC_Prg_addressOf_30 : decode cC_Prg_addressOf 30 = .ok (.invokevirtual 77, 3) := by decide +kernel
theorem dC_Prg_addressOf_33 : decode cC_Prg_addressOf 33 = .ok (.checkcast 51, 3) := by decide +kernel
theorem dC_Prg_addressOf_36 : decode cC_Prg_addressOf 36 = .ok (.astore_n 2, 1) := by decide +kernel
theorem dC_Prg_addressOf_37 : decode cC_Prg_addressOf 37 = .ok (.aload_n 2, 1) := by decide +kernel
theorem dC_Prg_addressOf_38 : decode cC_Prg_addressOf 38 = .ok (.getfield 82, 3) := by decide +kernel
theorem dC_Prg_addressOf_41 : decode cC_Prg_addressOf 41 = .ok (.ifCond .eq (15), 3) := by decide +kernel
theorem dC_Prg_addressOf_44 : decode cC_Prg_addressOf 44 = .ok (.aload_n 0, 1) := by decide +kernel
theorem dC_Prg_addressOf_45 : decode cC_Prg_addressOf 45 = .ok (.getfield 28, 3) := by decide +kernel
theorem dC_Prg_addressOf_48 : decode cC_Prg_addressOf 48 = .ok (.aload_n 2, 1) := by decide +kernel
theorem dC_Prg_addressOf_49 : decode cC_Prg_addressOf 49 = .ok (.getfield 92, 3) := by decide +kernel
theorem dC_Prg_addressOf_52 : decode cC_Prg_addressOf 52 = .ok (.iadd, 1) := by decide +kernel
theorem dC_Prg_addressOf_53 : decode cC_Prg_addressOf 53 = .ok (.goto (7), 3) := by decide +kernel
theorem dC_Prg_addressOf_56 : decode cC_Prg_addressOf 56 = .ok (.aload_n 2, 1) := by decide +kernel
theorem dC_Prg_addressOf_57 : decode cC_Prg_addressOf 57 = .ok (.getfield 92, 3) := by decide +kernel
theorem dC_Prg_addressOf_60 : decode cC_Prg_addressOf 60 = .ok (.ireturn, 1) := by decide +kernel
abbrev cC_Prg_end : ByteArray := prog_10_method_9_code
def yC_Prg_end : MethodName := ⟨R_Prg, "end", "()I"⟩
theorem dC_Prg_end_0 : decode cC_Prg_end 0 = .ok (.aload_n 0, 1) := by decide +kernel
theorem dC_Prg_end_1 : decode cC_Prg_end 1 = .ok (.getfield 41, 3) := by decide +kernel
theorem dC_Prg_end_4 : decode cC_Prg_end 4 = .ok (.ifCond .le (15), 3) := by decide +kernel
theorem dC_Prg_end_7 : decode cC_Prg_end 7 = .ok (.aload_n 0, 1) := by decide +kernel
theorem dC_Prg_end_8 : decode cC_Prg_end 8 = .ok (.getfield 28, 3) := by decide +kernel
theorem dC_Prg_end_11 : decode cC_Prg_end 11 = .ok (.aload_n 0, 1) := by decide +kernel
theorem dC_Prg_end_12 : decode cC_Prg_end 12 = .ok (.getfield 41, 3) := by decide +kernel
theorem dC_Prg_end_15 : decode cC_Prg_end 15 = .ok (.iadd, 1) := by decide +kernel
theorem dC_Prg_end_16 : decode cC_Prg_end 16 = .ok (.goto (7), 3) := by decide +kernel
theorem dC_Prg_end_19 : decode cC_Prg_end 19 = .ok (.aload_n 0, 1) := by decide +kernel
theorem dC_Prg_end_20 : decode cC_Prg_end 20 = .ok (.getfield 25, 3) := by decide +kernel
theorem dC_Prg_end_23 : decode cC_Prg_end 23 = .ok (.ireturn, 1) := by decide +kernel
abbrev cC_Prg_place : ByteArray := prog_10_method_10_code
def yC_Prg_place : MethodName := ⟨R_Prg, "place", "()V"⟩
theorem dC_Prg_place_0 : decode cC_Prg_place 0 = .ok (.aload_n 0, 1) := by decide +kernel
theorem dC_Prg_place_1 : decode cC_Prg_place 1 = .ok (.iconst (0), 1) := by decide +kernel
theorem dC_Prg_place_2 : decode cC_Prg_place 2 = .ok (.putfield 25, 3) := by decide +kernel
theorem dC_Prg_place_5 : decode cC_Prg_place 5 = .ok (.aload_n 0, 1) := by decide +kernel
theorem dC_Prg_place_6 : decode cC_Prg_place 6 = .ok (.iconst (0), 1) := by decide +kernel
theorem dC_Prg_place_7 : decode cC_Prg_place 7 = .ok (.putfield 41, 3) := by decide +kernel
theorem dC_Prg_place_10 : decode cC_Prg_place 10 = .ok (.iconst (0), 1) := by decide +kernel
theorem dC_Prg_place_11 : decode cC_Prg_place 11 = .ok (.istore_n 1, 1) := by decide +kernel
theorem dC_Prg_place_12 : decode cC_Prg_place 12 = .ok (.iload_n 1, 1) := by decide +kernel
theorem dC_Prg_place_13 : decode cC_Prg_place 13 = .ok (.aload_n 0, 1) := by decide +kernel
theorem dC_Prg_place_14 : decode cC_Prg_place 14 = .ok (.getfield 22, 3) := by decide +kernel
theorem dC_Prg_place_17 : decode cC_Prg_place 17 = .ok (.if_icmp .ge (99), 3) := by decide +kernel
theorem dC_Prg_place_20 : decode cC_Prg_place 20 = .ok (.aload_n 0, 1) := by decide +kernel
theorem dC_Prg_place_21 : decode cC_Prg_place 21 = .ok (.iload_n 1, 1) := by decide +kernel
theorem dC_Prg_place_22 : decode cC_Prg_place 22 = .ok (.invokevirtual 102, 3) := by decide +kernel
theorem dC_Prg_place_25 : decode cC_Prg_place 25 = .ok (.astore_n 2, 1) := by decide +kernel
theorem dC_Prg_place_26 : decode cC_Prg_place 26 = .ok (.aload_n 2, 1) := by decide +kernel
theorem dC_Prg_place_27 : decode cC_Prg_place 27 = .ok (.aload_n 2, 1) := by decide +kernel
theorem dC_Prg_place_28 : decode cC_Prg_place 28 = .ok (.getfield 82, 3) := by decide +kernel
theorem dC_Prg_place_31 : decode cC_Prg_place 31 = .ok (.ifCond .eq (10), 3) := by decide +kernel
theorem dC_Prg_place_34 : decode cC_Prg_place 34 = .ok (.aload_n 0, 1) := by decide +kernel
theorem dC_Prg_place_35 : decode cC_Prg_place 35 = .ok (.getfield 41, 3) := by decide +kernel
theorem dC_Prg_place_38 : decode cC_Prg_place 38 = .ok (.goto (7), 3) := by decide +kernel
theorem dC_Prg_place_41 : decode cC_Prg_place 41 = .ok (.aload_n 0, 1) := by decide +kernel
theorem dC_Prg_place_42 : decode cC_Prg_place 42 = .ok (.getfield 25, 3) := by decide +kernel
theorem dC_Prg_place_45 : decode cC_Prg_place 45 = .ok (.putfield 92, 3) := by decide +kernel
theorem dC_Prg_place_48 : decode cC_Prg_place 48 = .ok (.aload_n 2, 1) := by decide +kernel
theorem dC_Prg_place_49 : decode cC_Prg_place 49 = .ok (.getfield 83, 3) := by decide +kernel
theorem dC_Prg_place_52 : decode cC_Prg_place 52 = .ok (.iconst (3), 1) := by decide +kernel
theorem dC_Prg_place_53 : decode cC_Prg_place 53 = .ok (.if_icmp .ne (21), 3) := by decide +kernel
theorem dC_Prg_place_56 : decode cC_Prg_place 56 = .ok (.aload_n 2, 1) := by decide +kernel
theorem dC_Prg_place_57 : decode cC_Prg_place 57 = .ok (.aload_n 2, 1) := by decide +kernel
theorem dC_Prg_place_58 : decode cC_Prg_place 58 = .ok (.getfield 92, 3) := by decide +kernel
theorem dC_Prg_place_61 : decode cC_Prg_place 61 = .ok (.ineg, 1) := by decide +kernel
theorem dC_Prg_place_62 : decode cC_Prg_place 62 = .ok (.iconst (1), 1) := by decide +kernel
theorem dC_Prg_place_63 : decode cC_Prg_place 63 = .ok (.aload_n 2, 1) := by decide +kernel
theorem dC_Prg_place_64 : decode cC_Prg_place 64 = .ok (.getfield 86, 3) := by decide +kernel
theorem dC_Prg_place_67 : decode cC_Prg_place 67 = .ok (.ishl, 1) := by decide +kernel
theorem dC_Prg_place_68 : decode cC_Prg_place 68 = .ok (.iconst (1), 1) := by decide +kernel
theorem dC_Prg_place_69 : decode cC_Prg_place 69 = .ok (.isub, 1) := by decide +kernel
theorem dC_Prg_place_70 : decode cC_Prg_place 70 = .ok (.iand, 1) := by decide +kernel
theorem dC_Prg_place_71 : decode cC_Prg_place 71 = .ok (.putfield 89, 3) := by decide +kernel
theorem dC_Prg_place_74 : decode cC_Prg_place 74 = .ok (.aload_n 2, 1) := by decide +kernel
theorem dC_Prg_place_75 : decode cC_Prg_place 75 = .ok (.getfield 82, 3) := by decide +kernel
theorem dC_Prg_place_78 : decode cC_Prg_place 78 = .ok (.ifCond .eq (19), 3) := by decide +kernel
theorem dC_Prg_place_81 : decode cC_Prg_place 81 = .ok (.aload_n 0, 1) := by decide +kernel
theorem dC_Prg_place_82 : decode cC_Prg_place 82 = .ok (.dup, 1) := by decide +kernel
theorem dC_Prg_place_83 : decode cC_Prg_place 83 = .ok (.getfield 41, 3) := by decide +kernel
theorem dC_Prg_place_86 : decode cC_Prg_place 86 = .ok (.aload_n 2, 1) := by decide +kernel
theorem dC_Prg_place_87 : decode cC_Prg_place 87 = .ok (.getfield 89, 3) := by decide +kernel
theorem dC_Prg_place_90 : decode cC_Prg_place 90 = .ok (.iadd, 1) := by decide +kernel
theorem dC_Prg_place_91 : decode cC_Prg_place 91 = .ok (.putfield 41, 3) := by decide +kernel
theorem dC_Prg_place_94 : decode cC_Prg_place 94 = .ok (.goto (16), 3) := by decide +kernel
theorem dC_Prg_place_97 : decode cC_Prg_place 97 = .ok (.aload_n 0, 1) := by decide +kernel
theorem dC_Prg_place_98 : decode cC_Prg_place 98 = .ok (.dup, 1) := by decide +kernel
theorem dC_Prg_place_99 : decode cC_Prg_place 99 = .ok (.getfield 25, 3) := by decide +kernel
theorem dC_Prg_place_102 : decode cC_Prg_place 102 = .ok (.aload_n 2, 1) := by decide +kernel
theorem dC_Prg_place_103 : decode cC_Prg_place 103 = .ok (.getfield 89, 3) := by decide +kernel
theorem dC_Prg_place_106 : decode cC_Prg_place 106 = .ok (.iadd, 1) := by decide +kernel
theorem dC_Prg_place_107 : decode cC_Prg_place 107 = .ok (.putfield 25, 3) := by decide +kernel
theorem dC_Prg_place_110 : decode cC_Prg_place 110 = .ok (.iinc 1 (1), 3) := by decide +kernel
theorem dC_Prg_place_113 : decode cC_Prg_place 113 = .ok (.goto (-101), 3) := by decide +kernel
theorem dC_Prg_place_116 : decode cC_Prg_place 116 = .ok (.aload_n 0, 1) := by decide +kernel
theorem dC_Prg_place_117 : decode cC_Prg_place 117 = .ok (.aload_n 0, 1) := by decide +kernel
theorem dC_Prg_place_118 : decode cC_Prg_place 118 = .ok (.getfield 25, 3) := by decide +kernel
theorem dC_Prg_place_121 : decode cC_Prg_place 121 = .ok (.sipush (1024), 3) := by decide +kernel
theorem dC_Prg_place_124 : decode cC_Prg_place 124 = .ok (.iadd, 1) := by decide +kernel
theorem dC_Prg_place_125 : decode cC_Prg_place 125 = .ok (.iconst (1), 1) := by decide +kernel
theorem dC_Prg_place_126 : decode cC_Prg_place 126 = .ok (.isub, 1) := by decide +kernel
theorem dC_Prg_place_127 : decode cC_Prg_place 127 = .ok (.sipush (1024), 3) := by decide +kernel
theorem dC_Prg_place_130 : decode cC_Prg_place 130 = .ok (.idiv, 1) := by decide +kernel
theorem dC_Prg_place_131 : decode cC_Prg_place 131 = .ok (.sipush (1024), 3) := by decide +kernel
theorem dC_Prg_place_134 : decode cC_Prg_place 134 = .ok (.imul, 1) := by decide +kernel
theorem dC_Prg_place_135 : decode cC_Prg_place 135 = .ok (.putfield 28, 3) := by decide +kernel
theorem dC_Prg_place_138 : decode cC_Prg_place 138 = .ok (.return_, 1) := by decide +kernel
theorem gC_Prg_102 : GoodIn lw_gd (wsV R_Prg 102 R_Prg yC_Prg_find (.code yC_Prg_find cC_Prg_find 2 (some (.object "LineAssembler$Item")) :: lw_gd)) := lw_GV qc_1102 qc_1099 qc_1100 qc_1101 qc_14
theorem gL_Prg_70 : GoodIn lw_gd (wsV R_Prg 70 R_Lst yC_Lsize (.code yC_Lsize cC_Lsize 1 (some .int) :: lw_gd)) := lw_GV qc_927 qc_924 qc_925 qc_926 qc_17
theorem gL_Prg_77 : GoodIn lw_gd (wsV R_Prg 77 R_Lst yC_Lget (.code yC_Lget cC_Lget 2 (some (.object "java/lang/Object")) :: lw_gd)) := lw_GV qc_982 qc_979 qc_980 qc_981 qc_17
section
variable {p : Program} {l : Launch} {e : Env} {s : State} {m : MethodId} {args : Array Value} {below : List Frame} {meth : Method} {c : Code} {D : va_G} {dA : Nat → ClassId} {z : Nat → Nat} {o b i : Nat → Nat} {A : Nat → Prop}
def C_Prg_find_41 (t0 : Nat) (sP : CS) (sI : CS) : Option Nat :=
  some t0
set_option maxHeartbeats 4000000 in
set_option maxRecDepth 100000 in
theorem bC_Prg_find_41  {r : Nat} (C : CxC R_Prg p s m args meth c cC_Prg_find 2 (some (.object "LineAssembler$Item")) D dA (zz o) A) (t0 : Nat) (sP : CS) (sI : CS) (hM : C_Prg_find_41  t0 sP sI = some r) (hW : WdC D A s (w_Prg dA o b i sP sI) s.heap []) (ls : Array Slot) (hl : lv_has ls 2 []) : W p l e (rmC 3 120 0 0) s m args below meth c s.heap [] 0 0 (MQ below (QS (some (.ref (pa o i r)))) args s 0 0 (fun _ => False)) (F0 m 41 ls [.ref (pa o i t0)]) := by
  have hx := C.1.1
  have hb := C.1.2.1
  have hown := C.1.2.2.2.2.1
  have hT := C.1.2.2.2.2.2.1
  unfold C_Prg_find_41 at hM
  obtain rfl := sm_i hM
  exact x_retQa (pc := 41) C.1 rfl (Or.inl ⟨_, rfl⟩) dC_Prg_find_41
def C_Prg_find_37  (sP : CS) (sI : CS) : Option Nat :=
  C_Prg_find_41  0 sP sI
set_option maxHeartbeats 4000000 in
set_option maxRecDepth 100000 in
theorem bC_Prg_find_37  {r : Nat} (C : CxC R_Prg p s m args meth c cC_Prg_find 2 (some (.object "LineAssembler$Item")) D dA (zz o) A)  (sP : CS) (sI : CS) (hM : C_Prg_find_37   sP sI = some r) (hW : WdC D A s (w_Prg dA o b i sP sI) s.heap []) (ls : Array Slot) (hl : lv_has ls 2 [(0, .ref (o 64))]) : W p l e (rmC 3 120 0 0) s m args below meth c s.heap [] 0 0 (MQ below (QS (some (.ref (pa o i r)))) args s 0 0 (fun _ => False)) (F0 m 37 ls []) := by
  have hx := C.1.1
  have hb := C.1.2.1
  have hown := C.1.2.2.2.2.1
  have hT := C.1.2.2.2.2.2.1
  unfold C_Prg_find_37 at hM
  refine lv_aload_n (pc := 37) hx hb dC_Prg_find_37 rfl (lv_at hl 0 rfl) ?_
  refine x_getC (pc := 38) C hW 0 rfl (ci := 5) rfl i_Prg 10 (by decide) qc_405 rfl rfl dC_Prg_find_38 ?_
  exact bC_Prg_find_41  C  _ _ _ hM hW _ (lv_sub hl [] rfl)
def C_Prg_find (x1 : Int32) (sP : CS) (sI : CS) : Option Nat :=
  (if x1 < 0 then C_Prg_find_37  sP sI else (if (sP.1 1) ≤ x1 then C_Prg_find_37  sP sI else (if (nI (sI.2.2 0)) ≤ x1 then C_Prg_find_37  sP sI else cr (C_Lst_get x1 sI) (fun r1 => gd (decide (r1 < sI.2.2 0 + 1)) (C_Prg_find_41  r1 sP sI)))))
set_option maxHeartbeats 4000000 in
set_option maxRecDepth 100000 in
theorem bC_Prg_find_0  {r : Nat} (C : CxC R_Prg p s m args meth c cC_Prg_find 2 (some (.object "LineAssembler$Item")) D dA (zz o) A) (x1 : Int32) (sP : CS) (sI : CS) (hM : C_Prg_find  x1 sP sI = some r) (hW : WdC D A s (w_Prg dA o b i sP sI) s.heap []) (ls : Array Slot) (hl : lv_has ls 2 [(0, .ref (o 64)), (1, .int x1)]) : W p l e (rmC 3 120 0 0) s m args below meth c s.heap [] 0 0 (MQ below (QS (some (.ref (pa o i r)))) args s 0 0 (fun _ => False)) (F0 m 0 ls []) := by
  have hx := C.1.1
  have hb := C.1.2.1
  have hown := C.1.2.2.2.2.1
  have hT := C.1.2.2.2.2.2.1
  unfold C_Prg_find at hM
  refine lv_iload_n (pc := 0) hx hb dC_Prg_find_0 rfl (lv_at hl 1 rfl) ?_
  refine lv_if_lt (pc := 1) (tgt := 37) hx hb dC_Prg_find_1 (by decide) (fun hc => ?_) (fun hc => ?_)
  · replace hM := it_t hc hM
    exact bC_Prg_find_37  C  _ _ hM hW _ (lv_sub hl [0] rfl)
  · replace hM := it_f hc hM
    refine lv_iload_n (pc := 4) hx hb dC_Prg_find_4 rfl (lv_at hl 1 rfl) ?_
    refine lv_aload_n (pc := 5) hx hb dC_Prg_find_5 rfl (lv_at hl 0 rfl) ?_
    refine x_getC (pc := 6) C hW 0 rfl (ci := 5) rfl i_Prg 2 (by decide) qc_390 rfl rfl dC_Prg_find_6 ?_
    refine lv_icmp_ge (pc := 9) (tgt := 37) hx hb dC_Prg_find_9 (by decide) (fun hc => ?_) (fun hc => ?_)
    · replace hM := it_t hc hM
      exact bC_Prg_find_37  C  _ _ hM hW _ (lv_sub hl [0] rfl)
    · replace hM := it_f hc hM
      refine lv_iload_n (pc := 12) hx hb dC_Prg_find_12 rfl (lv_at hl 1 rfl) ?_
      refine lv_aload_n (pc := 13) hx hb dC_Prg_find_13 rfl (lv_at hl 0 rfl) ?_
      refine x_getC (pc := 14) C hW 0 rfl (ci := 5) rfl i_Prg 9 (by decide) qc_404 rfl rfl dC_Prg_find_14 ?_
      refine x_callQ (pc := 17) (n' := 7) (ov := some (.int (nI (sI.2.2 0)))) C hW (kC_Lsize l D dA (zz o) (o 66) (lref o b sI) (nI (sI.2.2 0)) (sI.1 0)) [4, 0, 1, 2, 3, 5, 6] rfl (by decide +kernel) rfl (ci := 11) rfl (q0 := 4) rfl gL_Prg_70 ⟨rfl, by decide, by decide, by decide +kernel⟩ ⟨Nat.le_of_ble_eq_true rfl, Nat.le_of_ble_eq_true rfl⟩ ⟨Nat.le_refl _, Nat.le_refl _⟩ (As := []) (n := 0) rfl hl.1 rfl (Nat.le_of_ble_eq_true rfl) dC_Prg_find_17 ?_
      refine lv_icmp_ge (pc := 20) (tgt := 37) hx hb dC_Prg_find_20 (by decide) (fun hc => ?_) (fun hc => ?_)
      · replace hM := it_t hc hM
        exact bC_Prg_find_37  C  _ _ hM hW _ (lv_sub hl [0] rfl)
      · replace hM := it_f hc hM
        refine lv_aload_n (pc := 23) hx hb dC_Prg_find_23 rfl (lv_at hl 0 rfl) ?_
        refine x_getC (pc := 24) C hW 0 rfl (ci := 5) rfl i_Prg 9 (by decide) qc_404 rfl rfl dC_Prg_find_24 ?_
        refine lv_iload_n (pc := 27) hx hb dC_Prg_find_27 rfl (lv_at hl 1 rfl) ?_
        obtain ⟨r1, hr1, hM⟩ := cr_some hM
        refine x_callQ (pc := 28) (n' := 7) (ov := some (.ref (pa o i r1))) C hW (kC_Lst_get l D dA (zz o) o b i x1 sI hr1) [4, 5, 0, 1, 2, 3, 6] rfl (by decide +kernel) rfl (ci := 11) rfl (q0 := 4) rfl gL_Prg_77 ⟨rfl, by decide, by decide, by decide +kernel⟩ ⟨Nat.le_of_ble_eq_true rfl, Nat.le_of_ble_eq_true rfl⟩ ⟨Nat.le_refl _, Nat.le_refl _⟩ (As := [.int x1]) (n := 1) rfl hl.1 rfl (Nat.le_of_ble_eq_true rfl) dC_Prg_find_28 ?_
        obtain ⟨hg2, hM⟩ := gd_some hM
        refine x_castI (pc := 31) C hW 6 rfl (of_decide_eq_true hg2) qc_330 dC_Prg_find_31 ?_
        refine lv_goto (pc := 34) (tgt := 41) hx hb dC_Prg_find_34 (by decide) ?_
        exact bC_Prg_find_41  C  _ _ _ hM hW _ (lv_sub hl [] rfl)
theorem kC_Prg_find (l : Launch) (D : va_G) (dA : Nat → ClassId) (o b i : Nat → Nat) (x1 : Int32) (sP : CS) (sI : CS) {r : Nat} (hM : C_Prg_find x1 sP sI = some r) : KQ l D dA (zz o) yC_Prg_find cC_Prg_find 2 (some (.object "LineAssembler$Item")) 3 120 (w_Prg dA o b i sP sI) [.ref (o 64), .int x1] (some (.ref (pa o i r))) := x_enterQ (by decide +kernel) (Nat.le_of_ble_eq_true rfl) (fun p e s m args below meth c A C hW ls hl => bC_Prg_find_0 C x1 sP sI hM hW ls hl)
def C_Prg_latest_23 (t0 : Int32) (sP : CS) (sI : CS) : Option Int32 :=
  some t0
set_option maxHeartbeats 4000000 in
set_option maxRecDepth 100000 in
theorem bC_Prg_latest_23  {r : Int32} (C : CxC R_Prg p s m args meth c cC_Prg_latest 2 (some .int) D dA (zz o) A) (t0 : Int32) (sP : CS) (sI : CS) (hM : C_Prg_latest_23  t0 sP sI = some r) (hW : WdC D A s (w_Prg dA o b i sP sI) s.heap []) (ls : Array Slot) (hl : lv_has ls 2 []) : W p l e (rmC 0 0 0 0) s m args below meth c s.heap [] 0 0 (MQ below (QS (some (.int r))) args s 0 0 (fun _ => False)) (F0 m 23 ls [.int t0]) := by
  have hx := C.1.1
  have hb := C.1.2.1
  have hown := C.1.2.2.2.2.1
  have hT := C.1.2.2.2.2.2.1
  unfold C_Prg_latest_23 at hM
  obtain rfl := sm_i hM
  exact x_retS (pc := 23) C.1 rfl dC_Prg_latest_23
def C_Prg_latest_22  (sP : CS) (sI : CS) : Option Int32 :=
  C_Prg_latest_23  (0 : Int32) sP sI
set_option maxHeartbeats 4000000 in
set_option maxRecDepth 100000 in
theorem bC_Prg_latest_22  {r : Int32} (C : CxC R_Prg p s m args meth c cC_Prg_latest 2 (some .int) D dA (zz o) A)  (sP : CS) (sI : CS) (hM : C_Prg_latest_22   sP sI = some r) (hW : WdC D A s (w_Prg dA o b i sP sI) s.heap []) (ls : Array Slot) (hl : lv_has ls 2 []) : W p l e (rmC 0 0 0 0) s m args below meth c s.heap [] 0 0 (MQ below (QS (some (.int r))) args s 0 0 (fun _ => False)) (F0 m 22 ls []) := by
  have hx := C.1.1
  have hb := C.1.2.1
  have hown := C.1.2.2.2.2.1
  have hT := C.1.2.2.2.2.2.1
  unfold C_Prg_latest_22 at hM
  refine lv_iconst (pc := 22) (v := 0) hx hb dC_Prg_latest_22 (by decide) ?_
  exact bC_Prg_latest_23  C  _ _ _ hM hW _ (lv_sub hl [] rfl)
def C_Prg_latest (x1 : Int32) (sP : CS) (sI : CS) : Option Int32 :=
  (if x1 < 0 then C_Prg_latest_22  sP sI else (if (nI (sP.2.2 20)) ≤ x1 then C_Prg_latest_22  sP sI else gd (inB x1 (sP.2.2 20)) (C_Prg_latest_23  (sP.2.1 20 x1.toNatClampNeg) sP sI)))
set_option maxHeartbeats 4000000 in
set_option maxRecDepth 100000 in
theorem bC_Prg_latest_0  {r : Int32} (C : CxC R_Prg p s m args meth c cC_Prg_latest 2 (some .int) D dA (zz o) A) (x1 : Int32) (sP : CS) (sI : CS) (hM : C_Prg_latest  x1 sP sI = some r) (hW : WdC D A s (w_Prg dA o b i sP sI) s.heap []) (ls : Array Slot) (hl : lv_has ls 2 [(0, .ref (o 64)), (1, .int x1)]) : W p l e (rmC 0 0 0 0) s m args below meth c s.heap [] 0 0 (MQ below (QS (some (.int r))) args s 0 0 (fun _ => False)) (F0 m 0 ls []) := by
  have hx := C.1.1
  have hb := C.1.2.1
  have hown := C.1.2.2.2.2.1
  have hT := C.1.2.2.2.2.2.1
  unfold C_Prg_latest at hM
  refine lv_iload_n (pc := 0) hx hb dC_Prg_latest_0 rfl (lv_at hl 1 rfl) ?_
  refine lv_if_lt (pc := 1) (tgt := 22) hx hb dC_Prg_latest_1 (by decide) (fun hc => ?_) (fun hc => ?_)
  · replace hM := it_t hc hM
    exact bC_Prg_latest_22  C  _ _ hM hW _ (lv_sub hl [] rfl)
  · replace hM := it_f hc hM
    refine lv_iload_n (pc := 4) hx hb dC_Prg_latest_4 rfl (lv_at hl 1 rfl) ?_
    refine lv_aload_n (pc := 5) hx hb dC_Prg_latest_5 rfl (lv_at hl 0 rfl) ?_
    refine x_getC (pc := 6) C hW 0 rfl (ci := 5) rfl i_Prg 11 (by decide) qc_406 rfl rfl dC_Prg_latest_6 ?_
    refine x_alenC (pc := 9) C hW 3 rfl dC_Prg_latest_9 ?_
    refine lv_icmp_ge (pc := 10) (tgt := 22) hx hb dC_Prg_latest_10 (by decide) (fun hc => ?_) (fun hc => ?_)
    · replace hM := it_t hc hM
      exact bC_Prg_latest_22  C  _ _ hM hW _ (lv_sub hl [] rfl)
    · replace hM := it_f hc hM
      refine lv_aload_n (pc := 13) hx hb dC_Prg_latest_13 rfl (lv_at hl 0 rfl) ?_
      refine x_getC (pc := 14) C hW 0 rfl (ci := 5) rfl i_Prg 11 (by decide) qc_406 rfl rfl dC_Prg_latest_14 ?_
      refine lv_iload_n (pc := 17) hx hb dC_Prg_latest_17 rfl (lv_at hl 1 rfl) ?_
      obtain ⟨hg1, hM⟩ := gd_some hM
      refine x_ldIC (pc := 18) C hW 3 rfl hg1 dC_Prg_latest_18 ?_
      refine lv_goto (pc := 19) (tgt := 23) hx hb dC_Prg_latest_19 (by decide) ?_
      exact bC_Prg_latest_23  C  _ _ _ hM hW _ (lv_sub hl [] rfl)
theorem kC_Prg_latest (l : Launch) (D : va_G) (dA : Nat → ClassId) (o b i : Nat → Nat) (x1 : Int32) (sP : CS) (sI : CS) {r : Int32} (hM : C_Prg_latest x1 sP sI = some r) : KQ l D dA (zz o) yC_Prg_latest cC_Prg_latest 2 (some .int) 0 0 (w_Prg dA o b i sP sI) [.ref (o 64), .int x1] (some (.int r)) := x_enterQ (by decide +kernel) (Nat.le_of_ble_eq_true rfl) (fun p e s m args below meth c A C hW ls hl => bC_Prg_latest_0 C x1 sP sI hM hW ls hl)
def C_Prg_isInText_14 (t0 : Int32) (sP : CS) (sI : CS) : Option Int32 :=
  gd (isB t0) (some t0)
set_option maxHeartbeats 4000000 in
set_option maxRecDepth 100000 in
theorem bC_Prg_isInText_14  {r : Int32} (C : CxC R_Prg p s m args meth c cC_Prg_isInText 2 (some .boolean) D dA (zz o) A) (t0 : Int32) (sP : CS) (sI : CS) (hM : C_Prg_isInText_14  t0 sP sI = some r) (hW : WdC D A s (w_Prg dA o b i sP sI) s.heap []) (ls : Array Slot) (hl : lv_has ls 2 []) : W p l e (rmC 0 0 0 0) s m args below meth c s.heap [] 0 0 (MQ below (QS (some (.int r))) args s 0 0 (fun _ => False)) (F0 m 14 ls [.int t0]) := by
  have hx := C.1.1
  have hb := C.1.2.1
  have hown := C.1.2.2.2.2.1
  have hT := C.1.2.2.2.2.2.1
  unfold C_Prg_isInText_14 at hM
  obtain ⟨hg1, hM⟩ := gd_some hM
  obtain rfl := sm_i hM
  exact x_retSz (pc := 14) C.1 rfl hg1 dC_Prg_isInText_14
def C_Prg_isInText (x1 : Int32) (sP : CS) (sI : CS) : Option Int32 :=
  (if x1 < (nI (sP.2.2 20)) then C_Prg_isInText_14  (0 : Int32) sP sI else C_Prg_isInText_14  (1 : Int32) sP sI)
set_option maxHeartbeats 4000000 in
set_option maxRecDepth 100000 in
theorem bC_Prg_isInText_0  {r : Int32} (C : CxC R_Prg p s m args meth c cC_Prg_isInText 2 (some .boolean) D dA (zz o) A) (x1 : Int32) (sP : CS) (sI : CS) (hM : C_Prg_isInText  x1 sP sI = some r) (hW : WdC D A s (w_Prg dA o b i sP sI) s.heap []) (ls : Array Slot) (hl : lv_has ls 2 [(0, .ref (o 64)), (1, .int x1)]) : W p l e (rmC 0 0 0 0) s m args below meth c s.heap [] 0 0 (MQ below (QS (some (.int r))) args s 0 0 (fun _ => False)) (F0 m 0 ls []) := by
  have hx := C.1.1
  have hb := C.1.2.1
  have hown := C.1.2.2.2.2.1
  have hT := C.1.2.2.2.2.2.1
  unfold C_Prg_isInText at hM
  refine lv_iload_n (pc := 0) hx hb dC_Prg_isInText_0 rfl (lv_at hl 1 rfl) ?_
  refine lv_aload_n (pc := 1) hx hb dC_Prg_isInText_1 rfl (lv_at hl 0 rfl) ?_
  refine x_getC (pc := 2) C hW 0 rfl (ci := 5) rfl i_Prg 11 (by decide) qc_406 rfl rfl dC_Prg_isInText_2 ?_
  refine x_alenC (pc := 5) C hW 3 rfl dC_Prg_isInText_5 ?_
  refine lv_icmp_lt (pc := 6) (tgt := 13) hx hb dC_Prg_isInText_6 (by decide) (fun hc => ?_) (fun hc => ?_)
  · replace hM := it_t hc hM
    refine lv_iconst (pc := 13) (v := 0) hx hb dC_Prg_isInText_13 (by decide) ?_
    exact bC_Prg_isInText_14  C  _ _ _ hM hW _ (lv_sub hl [] rfl)
  · replace hM := it_f hc hM
    refine lv_iconst (pc := 9) (v := 1) hx hb dC_Prg_isInText_9 (by decide) ?_
    refine lv_goto (pc := 10) (tgt := 14) hx hb dC_Prg_isInText_10 (by decide) ?_
    exact bC_Prg_isInText_14  C  _ _ _ hM hW _ (lv_sub hl [] rfl)
theorem kC_Prg_isInText (l : Launch) (D : va_G) (dA : Nat → ClassId) (o b i : Nat → Nat) (x1 : Int32) (sP : CS) (sI : CS) {r : Int32} (hM : C_Prg_isInText x1 sP sI = some r) : KQ l D dA (zz o) yC_Prg_isInText cC_Prg_isInText 2 (some .boolean) 0 0 (w_Prg dA o b i sP sI) [.ref (o 64), .int x1] (some (.int r)) := x_enterQ (by decide +kernel) (Nat.le_of_ble_eq_true rfl) (fun p e s m args below meth c A C hW ls hl => bC_Prg_isInText_0 C x1 sP sI hM hW ls hl)
def C_Prg_addressOf_23  (sP : CS) (sI : CS) : Option Int32 :=
  some (0 : Int32)
set_option maxHeartbeats 4000000 in
set_option maxRecDepth 100000 in
theorem bC_Prg_addressOf_23  {r : Int32} (C : CxC R_Prg p s m args meth c cC_Prg_addressOf 3 (some .int) D dA (zz o) A)  (sP : CS) (sI : CS) (hM : C_Prg_addressOf_23   sP sI = some r) (hW : WdC D A s (w_Prg dA o b i sP sI) s.heap []) (ls : Array Slot) (hl : lv_has ls 3 []) : W p l e (rmC 3 120 0 0) s m args below meth c s.heap [] 0 0 (MQ below (QS (some (.int r))) args s 0 0 (fun _ => False)) (F0 m 23 ls []) := by
  have hx := C.1.1
  have hb := C.1.2.1
  have hown := C.1.2.2.2.2.1
  have hT := C.1.2.2.2.2.2.1
  unfold C_Prg_addressOf_23 at hM
  refine lv_iconst (pc := 23) (v := 0) hx hb dC_Prg_addressOf_23 (by decide) ?_
  obtain rfl := sm_i hM
  exact x_retS (pc := 24) C.1 rfl dC_Prg_addressOf_24
def C_Prg_addressOf_60 (t0 : Int32) (sP : CS) (sI : CS) : Option Int32 :=
  some t0
set_option maxHeartbeats 4000000 in
set_option maxRecDepth 100000 in
theorem bC_Prg_addressOf_60  {r : Int32} (C : CxC R_Prg p s m args meth c cC_Prg_addressOf 3 (some .int) D dA (zz o) A) (t0 : Int32) (sP : CS) (sI : CS) (hM : C_Prg_addressOf_60  t0 sP sI = some r) (hW : WdC D A s (w_Prg dA o b i sP sI) s.heap []) (ls : Array Slot) (hl : lv_has ls 3 []) : W p l e (rmC 3 120 0 0) s m args below meth c s.heap [] 0 0 (MQ below (QS (some (.int r))) args s 0 0 (fun _ => False)) (F0 m 60 ls [.int t0]) := by
  have hx := C.1.1
  have hb := C.1.2.1
  have hown := C.1.2.2.2.2.1
  have hT := C.1.2.2.2.2.2.1
  unfold C_Prg_addressOf_60 at hM
  obtain rfl := sm_i hM
  exact x_retS (pc := 60) C.1 rfl dC_Prg_addressOf_60
def C_Prg_addressOf (x1 : Int32) (sP : CS) (sI : CS) : Option Int32 :=
  (if x1 < 0 then C_Prg_addressOf_23  sP sI else (if (sP.1 1) ≤ x1 then C_Prg_addressOf_23  sP sI else (if x1 < (nI (sI.2.2 0)) then cr (C_Lst_get x1 sI) (fun r1 => gd (decide (r1 < sI.2.2 0 + 1)) (gd (decide (r1 < sI.2.2 0 + 1)) ((if (sI.2.1 r1 1) = 0 then gd (decide (r1 < sI.2.2 0 + 1)) (C_Prg_addressOf_60  (sI.2.1 r1 5) sP sI) else gd (decide (r1 < sI.2.2 0 + 1)) (C_Prg_addressOf_60  ((sP.1 3) + (sI.2.1 r1 5)) sP sI))))) else C_Prg_addressOf_23  sP sI)))
set_option maxHeartbeats 4000000 in
set_option maxRecDepth 100000 in
theorem bC_Prg_addressOf_0  {r : Int32} (C : CxC R_Prg p s m args meth c cC_Prg_addressOf 3 (some .int) D dA (zz o) A) (x1 : Int32) (sP : CS) (sI : CS) (hM : C_Prg_addressOf  x1 sP sI = some r) (hW : WdC D A s (w_Prg dA o b i sP sI) s.heap []) (ls : Array Slot) (hl : lv_has ls 3 [(0, .ref (o 64)), (1, .int x1)]) : W p l e (rmC 3 120 0 0) s m args below meth c s.heap [] 0 0 (MQ below (QS (some (.int r))) args s 0 0 (fun _ => False)) (F0 m 0 ls []) := by
  have hx := C.1.1
  have hb := C.1.2.1
  have hown := C.1.2.2.2.2.1
  have hT := C.1.2.2.2.2.2.1
  unfold C_Prg_addressOf at hM
  refine lv_iload_n (pc := 0) hx hb dC_Prg_addressOf_0 rfl (lv_at hl 1 rfl) ?_
  refine lv_if_lt (pc := 1) (tgt := 23) hx hb dC_Prg_addressOf_1 (by decide) (fun hc => ?_) (fun hc => ?_)
  · replace hM := it_t hc hM
    exact bC_Prg_addressOf_23  C  _ _ hM hW _ (lv_sub hl [] rfl)
  · replace hM := it_f hc hM
    refine lv_iload_n (pc := 4) hx hb dC_Prg_addressOf_4 rfl (lv_at hl 1 rfl) ?_
    refine lv_aload_n (pc := 5) hx hb dC_Prg_addressOf_5 rfl (lv_at hl 0 rfl) ?_
    refine x_getC (pc := 6) C hW 0 rfl (ci := 5) rfl i_Prg 2 (by decide) qc_390 rfl rfl dC_Prg_addressOf_6 ?_
    refine lv_icmp_ge (pc := 9) (tgt := 23) hx hb dC_Prg_addressOf_9 (by decide) (fun hc => ?_) (fun hc => ?_)
    · replace hM := it_t hc hM
      exact bC_Prg_addressOf_23  C  _ _ hM hW _ (lv_sub hl [] rfl)
    · replace hM := it_f hc hM
      refine lv_iload_n (pc := 12) hx hb dC_Prg_addressOf_12 rfl (lv_at hl 1 rfl) ?_
      refine lv_aload_n (pc := 13) hx hb dC_Prg_addressOf_13 rfl (lv_at hl 0 rfl) ?_
      refine x_getC (pc := 14) C hW 0 rfl (ci := 5) rfl i_Prg 9 (by decide) qc_404 rfl rfl dC_Prg_addressOf_14 ?_
      refine x_callQ (pc := 17) (n' := 7) (ov := some (.int (nI (sI.2.2 0)))) C hW (kC_Lsize l D dA (zz o) (o 66) (lref o b sI) (nI (sI.2.2 0)) (sI.1 0)) [4, 0, 1, 2, 3, 5, 6] rfl (by decide +kernel) rfl (ci := 11) rfl (q0 := 4) rfl gL_Prg_70 ⟨rfl, by decide, by decide, by decide +kernel⟩ ⟨Nat.le_of_ble_eq_true rfl, Nat.le_of_ble_eq_true rfl⟩ ⟨Nat.le_refl _, Nat.le_refl _⟩ (As := []) (n := 0) rfl hl.1 rfl (Nat.le_of_ble_eq_true rfl) dC_Prg_addressOf_17 ?_
      refine lv_icmp_lt (pc := 20) (tgt := 25) hx hb dC_Prg_addressOf_20 (by decide) (fun hc => ?_) (fun hc => ?_)
      · replace hM := it_t hc hM
        refine lv_aload_n (pc := 25) hx hb dC_Prg_addressOf_25 rfl (lv_at hl 0 rfl) ?_
        refine x_getC (pc := 26) C hW 0 rfl (ci := 5) rfl i_Prg 9 (by decide) qc_404 rfl rfl dC_Prg_addressOf_26 ?_
        refine lv_iload_n (pc := 29) hx hb dC_Prg_addressOf_29 rfl (lv_at hl 1 rfl) ?_
        obtain ⟨r1, hr1, hM⟩ := cr_some hM
        refine x_callQ (pc := 30) (n' := 7) (ov := some (.ref (pa o i r1))) C hW (kC_Lst_get l D dA (zz o) o b i x1 sI hr1) [4, 5, 0, 1, 2, 3, 6] rfl (by decide +kernel) rfl (ci := 11) rfl (q0 := 4) rfl gL_Prg_77 ⟨rfl, by decide, by decide, by decide +kernel⟩ ⟨Nat.le_of_ble_eq_true rfl, Nat.le_of_ble_eq_true rfl⟩ ⟨Nat.le_refl _, Nat.le_refl _⟩ (As := [.int x1]) (n := 1) rfl hl.1 rfl (Nat.le_of_ble_eq_true rfl) dC_Prg_addressOf_30 ?_
        obtain ⟨hg2, hM⟩ := gd_some hM
        refine x_castI (pc := 33) C hW 6 rfl (of_decide_eq_true hg2) qc_330 dC_Prg_addressOf_33 ?_
        refine lv_astore_n (pc := 36) (lv' := [(2, .ref (pa o i r1)), (0, .ref (o 64)), (1, .int x1)]) hx hb dC_Prg_addressOf_36 rfl hl (by decide) rfl (fun ls hl => ?_)
        refine lv_aload_n (pc := 37) hx hb dC_Prg_addressOf_37 rfl (lv_at hl 0 rfl) ?_
        obtain ⟨hg3, hM⟩ := gd_some hM
        refine x_getI (pc := 38) C hW 6 rfl (of_decide_eq_true hg3) 1 (by decide) qc_340 rfl rfl dC_Prg_addressOf_38 ?_
        refine lv_if_eq (pc := 41) (tgt := 56) hx hb dC_Prg_addressOf_41 (by decide) (fun hc => ?_) (fun hc => ?_)
        · replace hM := it_t hc hM
          refine lv_aload_n (pc := 56) hx hb dC_Prg_addressOf_56 rfl (lv_at hl 0 rfl) ?_
          obtain ⟨hg4, hM⟩ := gd_some hM
          refine x_getI (pc := 57) C hW 6 rfl (of_decide_eq_true hg4) 5 (by decide) qc_353 rfl rfl dC_Prg_addressOf_57 ?_
          exact bC_Prg_addressOf_60  C  _ _ _ hM hW _ (lv_sub hl [] rfl)
        · replace hM := it_f hc hM
          refine lv_aload_n (pc := 44) hx hb dC_Prg_addressOf_44 rfl (lv_at hl 1 rfl) ?_
          refine x_getC (pc := 45) C hW 0 rfl (ci := 5) rfl i_Prg 4 (by decide) qc_395 rfl rfl dC_Prg_addressOf_45 ?_
          refine lv_aload_n (pc := 48) hx hb dC_Prg_addressOf_48 rfl (lv_at hl 0 rfl) ?_
          obtain ⟨hg5, hM⟩ := gd_some hM
          refine x_getI (pc := 49) C hW 6 rfl (of_decide_eq_true hg5) 5 (by decide) qc_353 rfl rfl dC_Prg_addressOf_49 ?_
          refine lv_iadd (pc := 52) hx hb dC_Prg_addressOf_52 ?_
          refine lv_goto (pc := 53) (tgt := 60) hx hb dC_Prg_addressOf_53 (by decide) ?_
          exact bC_Prg_addressOf_60  C  _ _ _ hM hW _ (lv_sub hl [] rfl)
      · replace hM := it_f hc hM
        exact bC_Prg_addressOf_23  C  _ _ hM hW _ (lv_sub hl [] rfl)
theorem kC_Prg_addressOf (l : Launch) (D : va_G) (dA : Nat → ClassId) (o b i : Nat → Nat) (x1 : Int32) (sP : CS) (sI : CS) {r : Int32} (hM : C_Prg_addressOf x1 sP sI = some r) : KQ l D dA (zz o) yC_Prg_addressOf cC_Prg_addressOf 3 (some .int) 3 120 (w_Prg dA o b i sP sI) [.ref (o 64), .int x1] (some (.int r)) := x_enterQ (by decide +kernel) (Nat.le_of_ble_eq_true rfl) (fun p e s m args below meth c A C hW ls hl => bC_Prg_addressOf_0 C x1 sP sI hM hW ls hl)
def C_Prg_end_23 (t0 : Int32) (sP : CS) (sI : CS) : Option Int32 :=
  some t0
set_option maxHeartbeats 4000000 in
set_option maxRecDepth 100000 in
theorem bC_Prg_end_23  {r : Int32} (C : CxC R_Prg p s m args meth c cC_Prg_end 1 (some .int) D dA (zz o) A) (t0 : Int32) (sP : CS) (sI : CS) (hM : C_Prg_end_23  t0 sP sI = some r) (hW : WdC D A s (w_Prg dA o b i sP sI) s.heap []) (ls : Array Slot) (hl : lv_has ls 1 []) : W p l e (rmC 0 0 0 0) s m args below meth c s.heap [] 0 0 (MQ below (QS (some (.int r))) args s 0 0 (fun _ => False)) (F0 m 23 ls [.int t0]) := by
  have hx := C.1.1
  have hb := C.1.2.1
  have hown := C.1.2.2.2.2.1
  have hT := C.1.2.2.2.2.2.1
  unfold C_Prg_end_23 at hM
  obtain rfl := sm_i hM
  exact x_retS (pc := 23) C.1 rfl dC_Prg_end_23
def C_Prg_end  (sP : CS) (sI : CS) : Option Int32 :=
  (if (sP.1 7) ≤ 0 then C_Prg_end_23  (sP.1 2) sP sI else C_Prg_end_23  ((sP.1 3) + (sP.1 7)) sP sI)
set_option maxHeartbeats 4000000 in
set_option maxRecDepth 100000 in
theorem bC_Prg_end_0  {r : Int32} (C : CxC R_Prg p s m args meth c cC_Prg_end 1 (some .int) D dA (zz o) A)  (sP : CS) (sI : CS) (hM : C_Prg_end   sP sI = some r) (hW : WdC D A s (w_Prg dA o b i sP sI) s.heap []) (ls : Array Slot) (hl : lv_has ls 1 [(0, .ref (o 64))]) : W p l e (rmC 0 0 0 0) s m args below meth c s.heap [] 0 0 (MQ below (QS (some (.int r))) args s 0 0 (fun _ => False)) (F0 m 0 ls []) := by
  have hx := C.1.1
  have hb := C.1.2.1
  have hown := C.1.2.2.2.2.1
  have hT := C.1.2.2.2.2.2.1
  unfold C_Prg_end at hM
  refine lv_aload_n (pc := 0) hx hb dC_Prg_end_0 rfl (lv_at hl 0 rfl) ?_
  refine x_getC (pc := 1) C hW 0 rfl (ci := 5) rfl i_Prg 8 (by decide) qc_403 rfl rfl dC_Prg_end_1 ?_
  refine lv_if_le (pc := 4) (tgt := 19) hx hb dC_Prg_end_4 (by decide) (fun hc => ?_) (fun hc => ?_)
  · replace hM := it_t hc hM
    refine lv_aload_n (pc := 19) hx hb dC_Prg_end_19 rfl (lv_at hl 0 rfl) ?_
    refine x_getC (pc := 20) C hW 0 rfl (ci := 5) rfl i_Prg 3 (by decide) qc_393 rfl rfl dC_Prg_end_20 ?_
    exact bC_Prg_end_23  C  _ _ _ hM hW _ (lv_sub hl [] rfl)
  · replace hM := it_f hc hM
    refine lv_aload_n (pc := 7) hx hb dC_Prg_end_7 rfl (lv_at hl 0 rfl) ?_
    refine x_getC (pc := 8) C hW 0 rfl (ci := 5) rfl i_Prg 4 (by decide) qc_395 rfl rfl dC_Prg_end_8 ?_
    refine lv_aload_n (pc := 11) hx hb dC_Prg_end_11 rfl (lv_at hl 0 rfl) ?_
    refine x_getC (pc := 12) C hW 0 rfl (ci := 5) rfl i_Prg 8 (by decide) qc_403 rfl rfl dC_Prg_end_12 ?_
    refine lv_iadd (pc := 15) hx hb dC_Prg_end_15 ?_
    refine lv_goto (pc := 16) (tgt := 23) hx hb dC_Prg_end_16 (by decide) ?_
    exact bC_Prg_end_23  C  _ _ _ hM hW _ (lv_sub hl [] rfl)
theorem kC_Prg_end (l : Launch) (D : va_G) (dA : Nat → ClassId) (o b i : Nat → Nat)  (sP : CS) (sI : CS) {r : Int32} (hM : C_Prg_end  sP sI = some r) : KQ l D dA (zz o) yC_Prg_end cC_Prg_end 1 (some .int) 0 0 (w_Prg dA o b i sP sI) [.ref (o 64)] (some (.int r)) := x_enterQ (by decide +kernel) (Nat.le_of_ble_eq_true rfl) (fun p e s m args below meth c A C hW ls hl => bC_Prg_end_0 C  sP sI hM hW ls hl)
def C_Prg_place_110 (N : Nat) (rec12 : Int32 → CS → CS → Option (Int32 × (CS × CS))) (x1 : Int32) (sP : CS) (sI : CS) : Option (Int32 × (CS × CS)) :=
  rec12 (x1 + (1 : Int32)) sP sI
set_option maxHeartbeats 4000000 in
set_option maxRecDepth 100000 in
theorem bC_Prg_place_110 (N : Nat) (rec12 : Int32 → CS → CS → Option (Int32 × (CS × CS))) {r : Int32} {u : CS × CS} (C : CxC R_Prg p s m args meth c cC_Prg_place 3 none D dA (zz o) A) (hrec12 : ∀ (x1 : Int32) (sP : CS) (sI : CS) , rec12 x1 sP sI = some (r, u) → ∀ (H : Heap) (locs : List Loc) (hW : WdC D A s (w_Prg dA o b i sP sI) H locs) (ls : Array Slot) (hl : lv_has ls 3 [(0, .ref (o 64)), (1, .int x1)]), W p l e (rmC 4 141 0 0) s m args below meth c H locs 0 0 (MQ below (QC D A (fun Ws' ov => Ws' = (w_Prg dA o b i u.1 u.2) ∧ ov = none)) args s 0 0 A) (F0 m 12 ls [])) (x1 : Int32) (sP : CS) (sI : CS) (hM : C_Prg_place_110 N rec12 x1 sP sI = some (r, u)) (H : Heap) (locs : List Loc) (hW : WdC D A s (w_Prg dA o b i sP sI) H locs) (ls : Array Slot) (hl : lv_has ls 3 [(0, .ref (o 64)), (1, .int x1)]) : W p l e (rmC 4 141 0 0) s m args below meth c H locs 0 0 (MQ below (QC D A (fun Ws' ov => Ws' = (w_Prg dA o b i u.1 u.2) ∧ ov = none)) args s 0 0 A) (F0 m 110 ls []) := by
  have hx := C.1.1
  have hb := C.1.2.1
  have hown := C.1.2.2.2.2.1
  have hT := C.1.2.2.2.2.2.1
  unfold C_Prg_place_110 at hM
  refine lv_iinc (pc := 110) (v := x1 + (1 : Int32)) (lv' := [(1, .int (x1 + (1 : Int32))), (0, .ref (o 64))]) hx hb dC_Prg_place_110 hl (k := 1) rfl rfl (by decide) rfl (fun ls hl => ?_)
  refine lv_goto (pc := 113) (tgt := 12) hx hb dC_Prg_place_113 (by decide) ?_
  exact hrec12 _ _ _ hM _ _ hW _ (lv_sub hl [1, 0] rfl)
def C_Prg_place_74 (N : Nat) (rec12 : Int32 → CS → CS → Option (Int32 × (CS × CS))) (x1 : Int32) (n2 : Nat) (sP : CS) (sI : CS) : Option (Int32 × (CS × CS)) :=
  gd (decide (n2 < sI.2.2 0 + 1)) ((if (sI.2.1 n2 1) = 0 then gd (decide (n2 < sI.2.2 0 + 1)) (bnd (cF sP 2 ((sP.1 2) + (sI.2.1 n2 4))) (fun sP3 => C_Prg_place_110 N rec12 x1 sP3 sI)) else gd (decide (n2 < sI.2.2 0 + 1)) (bnd (cF sP 7 ((sP.1 7) + (sI.2.1 n2 4))) (fun sP5 => C_Prg_place_110 N rec12 x1 sP5 sI))))
set_option maxHeartbeats 4000000 in
set_option maxRecDepth 100000 in
theorem bC_Prg_place_74 (N : Nat) (rec12 : Int32 → CS → CS → Option (Int32 × (CS × CS))) {r : Int32} {u : CS × CS} (C : CxC R_Prg p s m args meth c cC_Prg_place 3 none D dA (zz o) A) (hrec12 : ∀ (x1 : Int32) (sP : CS) (sI : CS) , rec12 x1 sP sI = some (r, u) → ∀ (H : Heap) (locs : List Loc) (hW : WdC D A s (w_Prg dA o b i sP sI) H locs) (ls : Array Slot) (hl : lv_has ls 3 [(0, .ref (o 64)), (1, .int x1)]), W p l e (rmC 4 141 0 0) s m args below meth c H locs 0 0 (MQ below (QC D A (fun Ws' ov => Ws' = (w_Prg dA o b i u.1 u.2) ∧ ov = none)) args s 0 0 A) (F0 m 12 ls [])) (x1 : Int32) (n2 : Nat) (sP : CS) (sI : CS) (hM : C_Prg_place_74 N rec12 x1 n2 sP sI = some (r, u)) (H : Heap) (locs : List Loc) (hW : WdC D A s (w_Prg dA o b i sP sI) H locs) (ls : Array Slot) (hl : lv_has ls 3 [(0, .ref (o 64)), (1, .int x1), (2, .ref (pa o i n2))]) : W p l e (rmC 4 141 0 0) s m args below meth c H locs 0 0 (MQ below (QC D A (fun Ws' ov => Ws' = (w_Prg dA o b i u.1 u.2) ∧ ov = none)) args s 0 0 A) (F0 m 74 ls []) := by
  have hx := C.1.1
  have hb := C.1.2.1
  have hown := C.1.2.2.2.2.1
  have hT := C.1.2.2.2.2.2.1
  unfold C_Prg_place_74 at hM
  refine lv_aload_n (pc := 74) hx hb dC_Prg_place_74 rfl (lv_at hl 2 rfl) ?_
  obtain ⟨hg1, hM⟩ := gd_some hM
  refine x_getI (pc := 75) C hW 6 rfl (of_decide_eq_true hg1) 1 (by decide) qc_340 rfl rfl dC_Prg_place_75 ?_
  refine lv_if_eq (pc := 78) (tgt := 97) hx hb dC_Prg_place_78 (by decide) (fun hc => ?_) (fun hc => ?_)
  · replace hM := it_t hc hM
    refine lv_aload_n (pc := 97) hx hb dC_Prg_place_97 rfl (lv_at hl 0 rfl) ?_
    refine lv_dup (pc := 98) hx hb dC_Prg_place_98 rfl ?_
    refine x_getC (pc := 99) C hW 0 rfl (ci := 5) rfl i_Prg 3 (by decide) qc_393 rfl rfl dC_Prg_place_99 ?_
    refine lv_aload_n (pc := 102) hx hb dC_Prg_place_102 rfl (lv_at hl 2 rfl) ?_
    obtain ⟨hg2, hM⟩ := gd_some hM
    refine x_getI (pc := 103) C hW 6 rfl (of_decide_eq_true hg2) 4 (by decide) qc_351 rfl rfl dC_Prg_place_103 ?_
    refine lv_iadd (pc := 106) hx hb dC_Prg_place_106 ?_
    refine x_putC (pc := 107) (ty := .int) (Ws' := (w_Prg dA o b i (cF sP 2 ((sP.1 2) + (sI.2.1 n2 4))) sI)) C hW 0 rfl (ci := 5) rfl i_Prg tok_Prg n_Prg 3 (by decide) qc_393 rfl rfl (by decide +kernel) rfl rfl (Nat.le_of_ble_eq_true rfl) rfl dC_Prg_place_107 (fun H locs hW => ?_)
    obtain ⟨sP3, esP3, hM⟩ := bnd_some hM
    rw [← esP3] at hW
    exact bC_Prg_place_110 N rec12 C hrec12 _ _ _ hM _ _ hW _ (lv_sub hl [0, 1] rfl)
  · replace hM := it_f hc hM
    refine lv_aload_n (pc := 81) hx hb dC_Prg_place_81 rfl (lv_at hl 0 rfl) ?_
    refine lv_dup (pc := 82) hx hb dC_Prg_place_82 rfl ?_
    refine x_getC (pc := 83) C hW 0 rfl (ci := 5) rfl i_Prg 8 (by decide) qc_403 rfl rfl dC_Prg_place_83 ?_
    refine lv_aload_n (pc := 86) hx hb dC_Prg_place_86 rfl (lv_at hl 2 rfl) ?_
    obtain ⟨hg4, hM⟩ := gd_some hM
    refine x_getI (pc := 87) C hW 6 rfl (of_decide_eq_true hg4) 4 (by decide) qc_351 rfl rfl dC_Prg_place_87 ?_
    refine lv_iadd (pc := 90) hx hb dC_Prg_place_90 ?_
    refine x_putC (pc := 91) (ty := .int) (Ws' := (w_Prg dA o b i (cF sP 7 ((sP.1 7) + (sI.2.1 n2 4))) sI)) C hW 0 rfl (ci := 5) rfl i_Prg tok_Prg n_Prg 8 (by decide) qc_403 rfl rfl (by decide +kernel) rfl rfl (Nat.le_of_ble_eq_true rfl) rfl dC_Prg_place_91 (fun H locs hW => ?_)
    obtain ⟨sP5, esP5, hM⟩ := bnd_some hM
    rw [← esP5] at hW
    refine lv_goto (pc := 94) (tgt := 110) hx hb dC_Prg_place_94 (by decide) ?_
    exact bC_Prg_place_110 N rec12 C hrec12 _ _ _ hM _ _ hW _ (lv_sub hl [0, 1] rfl)
def C_Prg_place_45 (N : Nat) (rec12 : Int32 → CS → CS → Option (Int32 × (CS × CS))) (x1 : Int32) (n2 : Nat) (t0 : Nat) (t1 : Int32) (sP : CS) (sI : CS) : Option (Int32 × (CS × CS)) :=
  gd (decide (t0 < sI.2.2 0 + 1)) (bnd (cA sI t0 5 t1) (fun sI2 => gd (decide (n2 < sI2.2.2 0 + 1)) ((if (sI2.2.1 n2 2) = (3 : Int32) then gd (decide (n2 < sI2.2.2 0 + 1)) (gd (decide (n2 < sI2.2.2 0 + 1)) (gd (decide (n2 < sI2.2.2 0 + 1)) (bnd (cA sI2 n2 4 ((-(sI2.2.1 n2 5)) &&& (((1 : Int32) <<< ((sI2.2.1 n2 3) &&& 31)) - (1 : Int32)))) (fun sI7 => C_Prg_place_74 N rec12 x1 n2 sP sI7)))) else C_Prg_place_74 N rec12 x1 n2 sP sI2))))
set_option maxHeartbeats 4000000 in
set_option maxRecDepth 100000 in
theorem bC_Prg_place_45 (N : Nat) (rec12 : Int32 → CS → CS → Option (Int32 × (CS × CS))) {r : Int32} {u : CS × CS} (C : CxC R_Prg p s m args meth c cC_Prg_place 3 none D dA (zz o) A) (hrec12 : ∀ (x1 : Int32) (sP : CS) (sI : CS) , rec12 x1 sP sI = some (r, u) → ∀ (H : Heap) (locs : List Loc) (hW : WdC D A s (w_Prg dA o b i sP sI) H locs) (ls : Array Slot) (hl : lv_has ls 3 [(0, .ref (o 64)), (1, .int x1)]), W p l e (rmC 4 141 0 0) s m args below meth c H locs 0 0 (MQ below (QC D A (fun Ws' ov => Ws' = (w_Prg dA o b i u.1 u.2) ∧ ov = none)) args s 0 0 A) (F0 m 12 ls [])) (x1 : Int32) (n2 : Nat) (t0 : Nat) (t1 : Int32) (sP : CS) (sI : CS) (hM : C_Prg_place_45 N rec12 x1 n2 t0 t1 sP sI = some (r, u)) (H : Heap) (locs : List Loc) (hW : WdC D A s (w_Prg dA o b i sP sI) H locs) (ls : Array Slot) (hl : lv_has ls 3 [(0, .ref (o 64)), (1, .int x1), (2, .ref (pa o i n2))]) : W p l e (rmC 4 141 0 0) s m args below meth c H locs 0 0 (MQ below (QC D A (fun Ws' ov => Ws' = (w_Prg dA o b i u.1 u.2) ∧ ov = none)) args s 0 0 A) (F0 m 45 ls [.int t1, .ref (pa o i t0)]) := by
  have hx := C.1.1
  have hb := C.1.2.1
  have hown := C.1.2.2.2.2.1
  have hT := C.1.2.2.2.2.2.1
  unfold C_Prg_place_45 at hM
  obtain ⟨hg1, hM⟩ := gd_some hM
  refine x_putI (pc := 45) (ty := .int) (Ws' := (w_Prg dA o b i sP (cA sI t0 5 t1))) C hW 6 rfl (of_decide_eq_true hg1) 5 (by decide) qc_353 rfl rfl (by decide +kernel) rfl rfl rfl rfl dC_Prg_place_45 (fun H locs hW => ?_)
  obtain ⟨sI2, esI2, hM⟩ := bnd_some hM
  rw [← esI2] at hW
  refine lv_aload_n (pc := 48) hx hb dC_Prg_place_48 rfl (lv_at hl 2 rfl) ?_
  obtain ⟨hg3, hM⟩ := gd_some hM
  refine x_getI (pc := 49) C hW 6 rfl (of_decide_eq_true hg3) 2 (by decide) qc_343 rfl rfl dC_Prg_place_49 ?_
  refine lv_iconst (pc := 52) (v := 3) hx hb dC_Prg_place_52 (by decide) ?_
  refine lv_icmp_ne (pc := 53) (tgt := 74) hx hb dC_Prg_place_53 (by decide) (fun hc => ?_) (fun hc => ?_)
  · replace hM := it_f hc hM
    exact bC_Prg_place_74 N rec12 C hrec12 _ _ _ _ hM _ _ hW _ (lv_sub hl [0, 1, 2] rfl)
  · replace hM := it_t hc hM
    refine lv_aload_n (pc := 56) hx hb dC_Prg_place_56 rfl (lv_at hl 2 rfl) ?_
    refine lv_aload_n (pc := 57) hx hb dC_Prg_place_57 rfl (lv_at hl 2 rfl) ?_
    obtain ⟨hg4, hM⟩ := gd_some hM
    refine x_getI (pc := 58) C hW 6 rfl (of_decide_eq_true hg4) 5 (by decide) qc_353 rfl rfl dC_Prg_place_58 ?_
    refine lv_ineg (pc := 61) hx hb dC_Prg_place_61 ?_
    refine lv_iconst (pc := 62) (v := 1) hx hb dC_Prg_place_62 (by decide) ?_
    refine lv_aload_n (pc := 63) hx hb dC_Prg_place_63 rfl (lv_at hl 2 rfl) ?_
    obtain ⟨hg5, hM⟩ := gd_some hM
    refine x_getI (pc := 64) C hW 6 rfl (of_decide_eq_true hg5) 3 (by decide) qc_345 rfl rfl dC_Prg_place_64 ?_
    refine lv_ishl (pc := 67) hx hb dC_Prg_place_67 ?_
    refine lv_iconst (pc := 68) (v := 1) hx hb dC_Prg_place_68 (by decide) ?_
    refine lv_isub (pc := 69) hx hb dC_Prg_place_69 ?_
    refine lv_iand (pc := 70) hx hb dC_Prg_place_70 ?_
    obtain ⟨hg6, hM⟩ := gd_some hM
    refine x_putI (pc := 71) (ty := .int) (Ws' := (w_Prg dA o b i sP (cA sI2 n2 4 ((-(sI2.2.1 n2 5)) &&& (((1 : Int32) <<< ((sI2.2.1 n2 3) &&& 31)) - (1 : Int32)))))) C hW 6 rfl (of_decide_eq_true hg6) 4 (by decide) qc_351 rfl rfl (by decide +kernel) rfl rfl rfl rfl dC_Prg_place_71 (fun H locs hW => ?_)
    obtain ⟨sI7, esI7, hM⟩ := bnd_some hM
    rw [← esI7] at hW
    exact bC_Prg_place_74 N rec12 C hrec12 _ _ _ _ hM _ _ hW _ (lv_sub hl [0, 1, 2] rfl)
def C_Prg_place_12 (N : Nat)  : Nat → Int32 → CS → CS → Option (Int32 × (CS × CS))
  | 0 => fun _ _ _ => none
  | n + 1 => fun x1 sP sI => (if (sP.1 1) ≤ x1 then gd (nz (1024 : Int32)) (bnd (cF sP 3 (((((sP.1 2) + (1024 : Int32)) - (1 : Int32)) / (1024 : Int32)) * (1024 : Int32))) (fun sP2 => some ((0 : Int32), (sP2, sI)))) else cr (C_Prg_find  x1 sP sI) (fun r3 => gd (decide (r3 < sI.2.2 0 + 1)) ((if (sI.2.1 r3 1) = 0 then C_Prg_place_45 N (C_Prg_place_12 N  n) x1 r3 r3 (sP.1 2) sP sI else C_Prg_place_45 N (C_Prg_place_12 N  n) x1 r3 r3 (sP.1 7) sP sI))))
set_option maxHeartbeats 4000000 in
set_option maxRecDepth 100000 in
theorem bC_Prg_place_12 (N : Nat)  {r : Int32} {u : CS × CS} (C : CxC R_Prg p s m args meth c cC_Prg_place 3 none D dA (zz o) A) : ∀ (n : Nat) (x1 : Int32) (sP : CS) (sI : CS) , C_Prg_place_12 N  n x1 sP sI = some (r, u) → ∀ (H : Heap) (locs : List Loc) (hW : WdC D A s (w_Prg dA o b i sP sI) H locs) (ls : Array Slot) (hl : lv_has ls 3 [(0, .ref (o 64)), (1, .int x1)]), W p l e (rmC 4 141 0 0) s m args below meth c H locs 0 0 (MQ below (QC D A (fun Ws' ov => Ws' = (w_Prg dA o b i u.1 u.2) ∧ ov = none)) args s 0 0 A) (F0 m 12 ls []) := by
  have hx := C.1.1
  have hb := C.1.2.1
  have hown := C.1.2.2.2.2.1
  have hT := C.1.2.2.2.2.2.1
  intro n
  induction n with
  | zero => intro x1 sP sI hM; cases hM
  | succ n hrec12 =>
    intro x1 sP sI hM H locs hW ls hl
    rw [C_Prg_place_12] at hM
    refine lv_iload_n (pc := 12) hx hb dC_Prg_place_12 rfl (lv_at hl 1 rfl) ?_
    refine lv_aload_n (pc := 13) hx hb dC_Prg_place_13 rfl (lv_at hl 0 rfl) ?_
    refine x_getC (pc := 14) C hW 0 rfl (ci := 5) rfl i_Prg 2 (by decide) qc_390 rfl rfl dC_Prg_place_14 ?_
    refine lv_icmp_ge (pc := 17) (tgt := 116) hx hb dC_Prg_place_17 (by decide) (fun hc => ?_) (fun hc => ?_)
    · replace hM := it_t hc hM
      refine lv_aload_n (pc := 116) hx hb dC_Prg_place_116 rfl (lv_at hl 0 rfl) ?_
      refine lv_aload_n (pc := 117) hx hb dC_Prg_place_117 rfl (lv_at hl 0 rfl) ?_
      refine x_getC (pc := 118) C hW 0 rfl (ci := 5) rfl i_Prg 3 (by decide) qc_393 rfl rfl dC_Prg_place_118 ?_
      refine lv_sipush (pc := 121) (v := 1024) hx hb dC_Prg_place_121 (by decide) ?_
      refine lv_iadd (pc := 124) hx hb dC_Prg_place_124 ?_
      refine lv_iconst (pc := 125) (v := 1) hx hb dC_Prg_place_125 (by decide) ?_
      refine lv_isub (pc := 126) hx hb dC_Prg_place_126 ?_
      refine lv_sipush (pc := 127) (v := 1024) hx hb dC_Prg_place_127 (by decide) ?_
      obtain ⟨hg1, hM⟩ := gd_some hM
      refine lv_idiv (pc := 130) hx hb dC_Prg_place_130 (nz_ne hg1) ?_
      refine lv_sipush (pc := 131) (v := 1024) hx hb dC_Prg_place_131 (by decide) ?_
      refine lv_imul (pc := 134) hx hb dC_Prg_place_134 ?_
      refine x_putC (pc := 135) (ty := .int) (Ws' := (w_Prg dA o b i (cF sP 3 (((((sP.1 2) + (1024 : Int32)) - (1 : Int32)) / (1024 : Int32)) * (1024 : Int32))) sI)) C hW 0 rfl (ci := 5) rfl i_Prg tok_Prg n_Prg 4 (by decide) qc_395 rfl rfl (by decide +kernel) rfl rfl (Nat.le_of_ble_eq_true rfl) rfl dC_Prg_place_135 (fun H locs hW => ?_)
      obtain ⟨sP2, esP2, hM⟩ := bnd_some hM
      rw [← esP2] at hW
      obtain ⟨rfl, rfl⟩ := sm_p hM
      exact x_retCv (pc := 138) C rfl hW ⟨rfl, rfl⟩ (Nat.le_refl 0) (Nat.le_refl 0) dC_Prg_place_138
    · replace hM := it_f hc hM
      refine lv_aload_n (pc := 20) hx hb dC_Prg_place_20 rfl (lv_at hl 0 rfl) ?_
      refine lv_iload_n (pc := 21) hx hb dC_Prg_place_21 rfl (lv_at hl 1 rfl) ?_
      obtain ⟨r3, hr3, hM⟩ := cr_some hM
      refine x_callQ (pc := 22) (n' := 7) (ov := some (.ref (pa o i r3))) C hW (kC_Prg_find l D dA o b i  x1 sP sI hr3) [0, 1, 2, 3, 4, 5, 6] rfl (by decide +kernel) rfl (ci := 5) rfl (q0 := 0) rfl gC_Prg_102 ⟨rfl, by decide, by decide, by decide +kernel⟩ ⟨Nat.le_of_ble_eq_true rfl, Nat.le_of_ble_eq_true rfl⟩ ⟨Nat.le_refl _, Nat.le_refl _⟩ (As := [.int x1]) (n := 1) rfl hl.1 rfl (Nat.le_of_ble_eq_true rfl) dC_Prg_place_22 ?_
      refine lv_astore_n (pc := 25) (lv' := [(2, .ref (pa o i r3)), (0, .ref (o 64)), (1, .int x1)]) hx hb dC_Prg_place_25 rfl hl (by decide) rfl (fun ls hl => ?_)
      refine lv_aload_n (pc := 26) hx hb dC_Prg_place_26 rfl (lv_at hl 0 rfl) ?_
      refine lv_aload_n (pc := 27) hx hb dC_Prg_place_27 rfl (lv_at hl 0 rfl) ?_
      obtain ⟨hg4, hM⟩ := gd_some hM
      refine x_getI (pc := 28) C hW 6 rfl (of_decide_eq_true hg4) 1 (by decide) qc_340 rfl rfl dC_Prg_place_28 ?_
      refine lv_if_eq (pc := 31) (tgt := 41) hx hb dC_Prg_place_31 (by decide) (fun hc => ?_) (fun hc => ?_)
      · replace hM := it_t hc hM
        refine lv_aload_n (pc := 41) hx hb dC_Prg_place_41 rfl (lv_at hl 1 rfl) ?_
        refine x_getC (pc := 42) C hW 0 rfl (ci := 5) rfl i_Prg 3 (by decide) qc_393 rfl rfl dC_Prg_place_42 ?_
        exact bC_Prg_place_45 N _ C hrec12 _ _ _ _ _ _ hM _ _ hW _ (lv_sub hl [1, 2, 0] rfl)
      · replace hM := it_f hc hM
        refine lv_aload_n (pc := 34) hx hb dC_Prg_place_34 rfl (lv_at hl 1 rfl) ?_
        refine x_getC (pc := 35) C hW 0 rfl (ci := 5) rfl i_Prg 8 (by decide) qc_403 rfl rfl dC_Prg_place_35 ?_
        refine lv_goto (pc := 38) (tgt := 45) hx hb dC_Prg_place_38 (by decide) ?_
        exact bC_Prg_place_45 N _ C hrec12 _ _ _ _ _ _ hM _ _ hW _ (lv_sub hl [1, 2, 0] rfl)
def C_Prg_place (N : Nat)  (sP : CS) (sI : CS) : Option (Int32 × (CS × CS)) :=
  bnd (cF sP 2 (0 : Int32)) (fun sP1 => bnd (cF sP1 7 (0 : Int32)) (fun sP2 => C_Prg_place_12 N  N (0 : Int32) sP2 sI))
set_option maxHeartbeats 4000000 in
set_option maxRecDepth 100000 in
theorem bC_Prg_place_0 (N : Nat)  {r : Int32} {u : CS × CS} (C : CxC R_Prg p s m args meth c cC_Prg_place 3 none D dA (zz o) A)  (sP : CS) (sI : CS) (hM : C_Prg_place N   sP sI = some (r, u)) (H : Heap) (locs : List Loc) (hW : WdC D A s (w_Prg dA o b i sP sI) H locs) (ls : Array Slot) (hl : lv_has ls 3 [(0, .ref (o 64))]) : W p l e (rmC 4 141 0 0) s m args below meth c H locs 0 0 (MQ below (QC D A (fun Ws' ov => Ws' = (w_Prg dA o b i u.1 u.2) ∧ ov = none)) args s 0 0 A) (F0 m 0 ls []) := by
  have hx := C.1.1
  have hb := C.1.2.1
  have hown := C.1.2.2.2.2.1
  have hT := C.1.2.2.2.2.2.1
  unfold C_Prg_place at hM
  refine lv_aload_n (pc := 0) hx hb dC_Prg_place_0 rfl (lv_at hl 0 rfl) ?_
  refine lv_iconst (pc := 1) (v := 0) hx hb dC_Prg_place_1 (by decide) ?_
  refine x_putC (pc := 2) (ty := .int) (Ws' := (w_Prg dA o b i (cF sP 2 (0 : Int32)) sI)) C hW 0 rfl (ci := 5) rfl i_Prg tok_Prg n_Prg 3 (by decide) qc_393 rfl rfl (by decide +kernel) rfl rfl (Nat.le_of_ble_eq_true rfl) rfl dC_Prg_place_2 (fun H locs hW => ?_)
  obtain ⟨sP1, esP1, hM⟩ := bnd_some hM
  rw [← esP1] at hW
  refine lv_aload_n (pc := 5) hx hb dC_Prg_place_5 rfl (lv_at hl 0 rfl) ?_
  refine lv_iconst (pc := 6) (v := 0) hx hb dC_Prg_place_6 (by decide) ?_
  refine x_putC (pc := 7) (ty := .int) (Ws' := (w_Prg dA o b i (cF sP1 7 (0 : Int32)) sI)) C hW 0 rfl (ci := 5) rfl i_Prg tok_Prg n_Prg 8 (by decide) qc_403 rfl rfl (by decide +kernel) rfl rfl (Nat.le_of_ble_eq_true rfl) rfl dC_Prg_place_7 (fun H locs hW => ?_)
  obtain ⟨sP2, esP2, hM⟩ := bnd_some hM
  rw [← esP2] at hW
  refine lv_iconst (pc := 10) (v := 0) hx hb dC_Prg_place_10 (by decide) ?_
  refine lv_istore_n (pc := 11) (lv' := [(1, .int (0 : Int32)), (0, .ref (o 64))]) hx hb dC_Prg_place_11 rfl hl (by decide) rfl (fun ls hl => ?_)
  exact bC_Prg_place_12 N  C  N _ _ _ hM _ _ hW _ (lv_sub hl [1, 0] rfl)
theorem kC_Prg_place (l : Launch) (D : va_G) (dA : Nat → ClassId) (o b i : Nat → Nat) (N : Nat)  (sP : CS) (sI : CS) {r : Int32} {u : CS × CS} (hM : C_Prg_place N  sP sI = some (r, u)) : KC l D dA (zz o) yC_Prg_place cC_Prg_place 3 none 4 141 0 0 (w_Prg dA o b i sP sI) [.ref (o 64)] (fun Ws' ov => Ws' = (w_Prg dA o b i u.1 u.2) ∧ ov = none) := x_enterC (by decide +kernel) (Nat.le_of_ble_eq_true rfl) (fun p e s m args below meth c A C _ hW ls hl => bC_Prg_place_0 N C  sP sI hM s.heap [] hW ls hl)
end
