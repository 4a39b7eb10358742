abbrev c_Lex (dA : Nat → ClassId) (o b : Nat → Nat) (σ : CS) : List va_W := [[(o 80, .inr (6, [.ref (o 0), .ref (o 16), .ref (o 32), .ref (o 48), .int (σ.1 0)]))]]
abbrev c_Ary (dA : Nat → ClassId) (o b : Nat → Nat) (σ : CS) : List va_W := [[(b 0, .inl (dA 2, σ.2.2 0, .inl (σ.2.1 0)))]]
abbrev c_Txt (dA : Nat → ClassId) (o b : Nat → Nat) (σ : CS) : List va_W := [[(o 0, .inr (1, [.int (σ.1 0), .ref (b 0)]))], [(b 0, .inl (dA 2, σ.2.2 0, .inl (σ.2.1 0)))]]
abbrev c_Nam (dA : Nat → ClassId) (o b : Nat → Nat) (σ : CS) : List va_W := [[(o 16, .inr (2, [.ref (o 17), .ref (o 18), .ref (o 19), .ref (o 20), .ref (o 21), .int (σ.1 1), .int (σ.1 2), .int (σ.1 3), .ref (b 26), .ref (o 22), .ref (o 23), .ref (o 24), .ref (o 25), .int (σ.1 4), .int (σ.1 0)]))], [(o 17, .inr (1, [.int (σ.1 100), .ref (b 17)]))], [(b 17, .inl (dA 2, σ.2.2 0, .inl (σ.2.1 0)))], [(o 18, .inr (1, [.int (σ.1 101), .ref (b 18)]))], [(b 18, .inl (dA 2, σ.2.2 1, .inl (σ.2.1 1)))], [(o 19, .inr (1, [.int (σ.1 102), .ref (b 19)]))], [(b 19, .inl (dA 2, σ.2.2 2, .inl (σ.2.1 2)))], [(o 20, .inr (1, [.int (σ.1 103), .ref (b 20)]))], [(b 20, .inl (dA 2, σ.2.2 3, .inl (σ.2.1 3)))], [(o 21, .inr (1, [.int (σ.1 104), .ref (b 21)]))], [(b 21, .inl (dA 2, σ.2.2 4, .inl (σ.2.1 4)))], [(o 22, .inr (1, [.int (σ.1 105), .ref (b 22)]))], [(b 22, .inl (dA 2, σ.2.2 5, .inl (σ.2.1 5)))], [(o 23, .inr (1, [.int (σ.1 106), .ref (b 23)]))], [(b 23, .inl (dA 2, σ.2.2 6, .inl (σ.2.1 6)))], [(o 24, .inr (1, [.int (σ.1 107), .ref (b 24)]))], [(b 24, .inl (dA 2, σ.2.2 7, .inl (σ.2.1 7)))], [(o 25, .inr (1, [.int (σ.1 108), .ref (b 25)]))], [(b 25, .inl (dA 2, σ.2.2 8, .inl (σ.2.1 8)))], [(b 26, .inl (dA 2, σ.2.2 20, .inl (σ.2.1 20)))]]
abbrev c_Tok (dA : Nat → ClassId) (o b : Nat → Nat) (σ : CS) : List va_W := [[(o 32, .inr (3, [.int (σ.1 0), .int (σ.1 1), .int (σ.1 2), .ref (b 32), .ref (b 33), .ref (b 34)]))], [(b 32, .inl (dA 2, σ.2.2 0, .inl (σ.2.1 0)))], [(b 33, .inl (dA 2, σ.2.2 1, .inl (σ.2.1 1)))], [(b 34, .inl (dA 2, σ.2.2 2, .inl (σ.2.1 2)))]]
abbrev c_Let (dA : Nat → ClassId) (o b : Nat → Nat) (σ : CS) : List va_W := [[(o 48, .inr (1, [.int (σ.1 0), .ref (b 48)]))], [(b 48, .inl (dA 2, σ.2.2 0, .inl (σ.2.1 0)))]]
abbrev w_Lex (dA : Nat → ClassId) (o b : Nat → Nat) (sL sX sY sN sT : CS) : List va_W := [[(o 80, .inr (6, [.ref (o 0), .ref (o 16), .ref (o 32), .ref (o 48), .int (sL.1 0)]))], [(o 0, .inr (1, [.int (sX.1 0), .ref (b 0)]))], [(b 0, .inl (dA 2, sX.2.2 0, .inl (sX.2.1 0)))], [(o 48, .inr (1, [.int (sY.1 0), .ref (b 48)]))], [(b 48, .inl (dA 2, sY.2.2 0, .inl (sY.2.1 0)))], [(o 16, .inr (2, [.ref (o 17), .ref (o 18), .ref (o 19), .ref (o 20), .ref (o 21), .int (sN.1 1), .int (sN.1 2), .int (sN.1 3), .ref (b 26), .ref (o 22), .ref (o 23), .ref (o 24), .ref (o 25), .int (sN.1 4), .int (sN.1 0)]))], [(o 17, .inr (1, [.int (sN.1 100), .ref (b 17)]))], [(b 17, .inl (dA 2, sN.2.2 0, .inl (sN.2.1 0)))], [(o 18, .inr (1, [.int (sN.1 101), .ref (b 18)]))], [(b 18, .inl (dA 2, sN.2.2 1, .inl (sN.2.1 1)))], [(o 19, .inr (1, [.int (sN.1 102), .ref (b 19)]))], [(b 19, .inl (dA 2, sN.2.2 2, .inl (sN.2.1 2)))], [(o 20, .inr (1, [.int (sN.1 103), .ref (b 20)]))], [(b 20, .inl (dA 2, sN.2.2 3, .inl (sN.2.1 3)))], [(o 21, .inr (1, [.int (sN.1 104), .ref (b 21)]))], [(b 21, .inl (dA 2, sN.2.2 4, .inl (sN.2.1 4)))], [(o 22, .inr (1, [.int (sN.1 105), .ref (b 22)]))], [(b 22, .inl (dA 2, sN.2.2 5, .inl (sN.2.1 5)))], [(o 23, .inr (1, [.int (sN.1 106), .ref (b 23)]))], [(b 23, .inl (dA 2, sN.2.2 6, .inl (sN.2.1 6)))], [(o 24, .inr (1, [.int (sN.1 107), .ref (b 24)]))], [(b 24, .inl (dA 2, sN.2.2 7, .inl (sN.2.1 7)))], [(o 25, .inr (1, [.int (sN.1 108), .ref (b 25)]))], [(b 25, .inl (dA 2, sN.2.2 8, .inl (sN.2.1 8)))], [(b 26, .inl (dA 2, sN.2.2 20, .inl (sN.2.1 20)))], [(o 32, .inr (3, [.int (sT.1 0), .int (sT.1 1), .int (sT.1 2), .ref (b 32), .ref (b 33), .ref (b 34)]))], [(b 32, .inl (dA 2, sT.2.2 0, .inl (sT.2.1 0)))], [(b 33, .inl (dA 2, sT.2.2 1, .inl (sT.2.1 1)))], [(b 34, .inl (dA 2, sT.2.2 2, .inl (sT.2.1 2)))]]
abbrev w_Arr (dA : Nat → ClassId) (o b : Nat → Nat) (sX : CS) : List va_W := [[(b 0, .inl (dA 2, sX.2.2 0, .inl (sX.2.1 0)))]]
abbrev w_Row (dA : Nat → ClassId) (o b : Nat → Nat) (sX : CS) : List va_W := [[(o 0, .inr (1, [.int (sX.1 0), .ref (b 0)]))], [(b 0, .inl (dA 2, sX.2.2 0, .inl (sX.2.1 0)))]]
abbrev w_Nam (dA : Nat → ClassId) (o b : Nat → Nat) (sN : CS) : List va_W := [[(o 16, .inr (2, [.ref (o 17), .ref (o 18), .ref (o 19), .ref (o 20), .ref (o 21), .int (sN.1 1), .int (sN.1 2), .int (sN.1 3), .ref (b 26), .ref (o 22), .ref (o 23), .ref (o 24), .ref (o 25), .int (sN.1 4), .int (sN.1 0)]))], [(o 17, .inr (1, [.int (sN.1 100), .ref (b 17)]))], [(b 17, .inl (dA 2, sN.2.2 0, .inl (sN.2.1 0)))], [(o 18, .inr (1, [.int (sN.1 101), .ref (b 18)]))], [(b 18, .inl (dA 2, sN.2.2 1, .inl (sN.2.1 1)))], [(o 19, .inr (1, [.int (sN.1 102), .ref (b 19)]))], [(b 19, .inl (dA 2, sN.2.2 2, .inl (sN.2.1 2)))], [(o 20, .inr (1, [.int (sN.1 103), .ref (b 20)]))], [(b 20, .inl (dA 2, sN.2.2 3, .inl (sN.2.1 3)))], [(o 21, .inr (1, [.int (sN.1 104), .ref (b 21)]))], [(b 21, .inl (dA 2, sN.2.2 4, .inl (sN.2.1 4)))], [(o 22, .inr (1, [.int (sN.1 105), .ref (b 22)]))], [(b 22, .inl (dA 2, sN.2.2 5, .inl (sN.2.1 5)))], [(o 23, .inr (1, [.int (sN.1 106), .ref (b 23)]))], [(b 23, .inl (dA 2, sN.2.2 6, .inl (sN.2.1 6)))], [(o 24, .inr (1, [.int (sN.1 107), .ref (b 24)]))], [(b 24, .inl (dA 2, sN.2.2 7, .inl (sN.2.1 7)))], [(o 25, .inr (1, [.int (sN.1 108), .ref (b 25)]))], [(b 25, .inl (dA 2, sN.2.2 8, .inl (sN.2.1 8)))], [(b 26, .inl (dA 2, sN.2.2 20, .inl (sN.2.1 20)))]]
abbrev w_Tok (dA : Nat → ClassId) (o b : Nat → Nat) (sT : CS) : List va_W := [[(o 32, .inr (3, [.int (sT.1 0), .int (sT.1 1), .int (sT.1 2), .ref (b 32), .ref (b 33), .ref (b 34)]))], [(b 32, .inl (dA 2, sT.2.2 0, .inl (sT.2.1 0)))], [(b 33, .inl (dA 2, sT.2.2 1, .inl (sT.2.1 1)))], [(b 34, .inl (dA 2, sT.2.2 2, .inl (sT.2.1 2)))]]
theorem qc_5 : (Jvm.Cond.initialized "java/lang/Math") ∈ lw_gd := uc_0 (List.mem_of_getElem? (i := 5) (by decide +kernel)) (by decide +kernel)
theorem qc_52 : (Jvm.Cond.fieldLink "LineAssembler$Row" (7 : Nat) "LineAssembler$Row" "count" "I") ∈ lw_gd := uc_0 (List.mem_of_getElem? (i := 52) (by decide +kernel)) (by decide +kernel)
theorem qc_57 : (Jvm.Cond.fieldLink "LineAssembler$Row" (13 : Nat) "LineAssembler$Row" "cells" "[I") ∈ lw_gd := uc_0 (List.mem_of_getElem? (i := 57) (by decide +kernel)) (by decide +kernel)
theorem qc_87 : (Jvm.Cond.static ({ cls := "java/lang/Math", name := "min", desc := "(II)I" } : Jvm.MethodName)) ∈ lw_gd := uc_0 (List.mem_of_getElem? (i := 87) (by decide +kernel)) (by decide +kernel)
theorem qc_88 : (Jvm.Cond.code ({ cls := "java/lang/Math", name := "min", desc := "(II)I" } : Jvm.MethodName) prog_27_method_69_code (2 : Nat) (Option.some Jvm.ClassFile.FieldType.int)) ∈ lw_gd := uc_0 (List.mem_of_getElem? (i := 88) (by decide +kernel)) (by decide +kernel)
theorem qc_276 : (Jvm.Cond.fieldLink "LineAssembler$Tokens" (9 : Nat) "LineAssembler$Tokens" "lines" "I") ∈ lw_gd := uc_1 (List.mem_of_getElem? (i := 36) (by decide +kernel)) (by decide +kernel)
theorem qc_278 : (Jvm.Cond.fieldLink "LineAssembler$Tokens" (15 : Nat) "LineAssembler$Tokens" "count" "I") ∈ lw_gd := uc_1 (List.mem_of_getElem? (i := 38) (by decide +kernel)) (by decide +kernel)
theorem qc_279 : (Jvm.Cond.fieldLink "LineAssembler$Tokens" (18 : Nat) "LineAssembler$Tokens" "at" "I") ∈ lw_gd := uc_1 (List.mem_of_getElem? (i := 39) (by decide +kernel)) (by decide +kernel)
theorem qc_280 : (Jvm.Cond.fieldLink "LineAssembler$Tokens" (21 : Nat) "LineAssembler$Tokens" "kinds" "[I") ∈ lw_gd := uc_1 (List.mem_of_getElem? (i := 40) (by decide +kernel)) (by decide +kernel)
theorem qc_281 : (Jvm.Cond.fieldLink "LineAssembler$Tokens" (25 : Nat) "LineAssembler$Tokens" "values" "[I") ∈ lw_gd := uc_1 (List.mem_of_getElem? (i := 41) (by decide +kernel)) (by decide +kernel)
theorem qc_282 : (Jvm.Cond.fieldLink "LineAssembler$Tokens" (28 : Nat) "LineAssembler$Tokens" "lengths" "[I") ∈ lw_gd := uc_1 (List.mem_of_getElem? (i := 42) (by decide +kernel)) (by decide +kernel)
theorem qc_1121 : (Jvm.Cond.methodLink "LineAssembler$Tokens" (37 : Nat) ({ cls := "java/lang/Math", name := "min", desc := "(II)I" } : Jvm.MethodName)) ∈ lw_gd := uc_4 (List.mem_of_getElem? (i := 161) (by decide +kernel)) (by decide +kernel)
abbrev cC_Row_get : ByteArray := prog_11_method_3_code
def yC_Row_get : MethodName := ⟨R_Row, "get", "(I)I"⟩
theorem dC_Row_get_0 : decode cC_Row_get 0 = .ok (.iload_n 1, 1) := by decide +kernel
theorem dC_Row_get_1 : decode cC_Row_get 1 = .ok (.ifCond .lt (20), 3) := by decide +kernel
theorem dC_Row_get_4 : decode cC_Row_get 4 = .ok (.iload_n 1, 1) := by decide +kernel
theorem dC_Row_get_5 : decode cC_Row_get 5 = .ok (.aload_n 0, 1) := by decide +kernel
theorem dC_Row_get_6 : decode cC_Row_get 6 = .ok (.getfield 7, 3) := by decide +kernel
theorem dC_Row_get_9 : decode cC_Row_get 9 = .ok (.if_icmp .ge (12), 3) := by decide +kernel
theorem dC_Row_get_12 : decode cC_Row_get 12 = .ok (.aload_n 0, 1) := by decide +kernel
theorem dC_Row_get_13 : decode cC_Row_get 13 = .ok (.getfield 13, 3) := by decide +kernel
theorem dC_Row_get_16 : decode cC_Row_get 16 = .ok (.iload_n 1, 1) := by decide +kernel
theorem dC_Row_get_17 : decode cC_Row_get 17 = .ok (.iaload, 1) := by decide +kernel
theorem dC_Row_get_18 : decode cC_Row_get 18 = .ok (.goto (4), 3) := by decide +kernel
theorem dC_Row_get_21 : decode cC_Row_get 21 = .ok (.iconst (0), 1) := by decide +kernel
theorem dC_Row_get_22 : decode cC_Row_get 22 = .ok (.ireturn, 1) := by decide +kernel
abbrev cC_Row_set : ByteArray := prog_11_method_4_code
def yC_Row_set : MethodName := ⟨R_Row, "set", "(II)V"⟩
theorem dC_Row_set_0 : decode cC_Row_set 0 = .ok (.iload_n 1, 1) := by decide +kernel
theorem dC_Row_set_1 : decode cC_Row_set 1 = .ok (.ifCond .lt (18), 3) := by decide +kernel
theorem dC_Row_set_4 : decode cC_Row_set 4 = .ok (.iload_n 1, 1) := by decide +kernel
theorem dC_Row_set_5 : decode cC_Row_set 5 = .ok (.aload_n 0, 1) := by decide +kernel
theorem dC_Row_set_6 : decode cC_Row_set 6 = .ok (.getfield 7, 3) := by decide +kernel
theorem dC_Row_set_9 : decode cC_Row_set 9 = .ok (.if_icmp .ge (10), 3) := by decide +kernel
theorem dC_Row_set_12 : decode cC_Row_set 12 = .ok (.aload_n 0, 1) := by decide +kernel
theorem dC_Row_set_13 : decode cC_Row_set 13 = .ok (.getfield 13, 3) := by decide +kernel
theorem dC_Row_set_16 : decode cC_Row_set 16 = .ok (.iload_n 1, 1) := by decide +kernel
theorem dC_Row_set_17 : decode cC_Row_set 17 = .ok (.iload_n 2, 1) := by decide +kernel
theorem dC_Row_set_18 : decode cC_Row_set 18 = .ok (.iastore, 1) := by decide +kernel
theorem dC_Row_set_19 : decode cC_Row_set 19 = .ok (.return_, 1) := by decide +kernel
abbrev cC_Row_cut : ByteArray := prog_11_method_5_code
def yC_Row_cut : MethodName := ⟨R_Row, "cut", "(I)V"⟩
theorem dC_Row_cut_0 : decode cC_Row_cut 0 = .ok (.iload_n 1, 1) := by decide +kernel
theorem dC_Row_cut_1 : decode cC_Row_cut 1 = .ok (.ifCond .lt (16), 3) := by decide +kernel
theorem dC_Row_cut_4 : decode cC_Row_cut 4 = .ok (.iload_n 1, 1) := by decide +kernel
theorem dC_Row_cut_5 : decode cC_Row_cut 5 = .ok (.aload_n 0, 1) := by decide +kernel
theorem dC_Row_cut_6 : decode cC_Row_cut 6 = .ok (.getfield 7, 3) := by decide +kernel
theorem dC_Row_cut_9 : decode cC_Row_cut 9 = .ok (.if_icmp .ge (8), 3) := by decide +kernel
theorem dC_Row_cut_12 : decode cC_Row_cut 12 = .ok (.aload_n 0, 1) := by decide +kernel
theorem dC_Row_cut_13 : decode cC_Row_cut 13 = .ok (.iload_n 1, 1) := by decide +kernel
theorem dC_Row_cut_14 : decode cC_Row_cut 14 = .ok (.putfield 7, 3) := by decide +kernel
theorem dC_Row_cut_17 : decode cC_Row_cut 17 = .ok (.return_, 1) := by decide +kernel
abbrev cC_Tok_empty : ByteArray := prog_12_method_2_code
def yC_Tok_empty : MethodName := ⟨R_Tok, "empty", "()V"⟩
theorem dC_Tok_empty_0 : decode cC_Tok_empty 0 = .ok (.aload_n 0, 1) := by decide +kernel
theorem dC_Tok_empty_1 : decode cC_Tok_empty 1 = .ok (.iconst (0), 1) := by decide +kernel
theorem dC_Tok_empty_2 : decode cC_Tok_empty 2 = .ok (.putfield 9, 3) := by decide +kernel
theorem dC_Tok_empty_5 : decode cC_Tok_empty 5 = .ok (.aload_n 0, 1) := by decide +kernel
theorem dC_Tok_empty_6 : decode cC_Tok_empty 6 = .ok (.iconst (0), 1) := by decide +kernel
theorem dC_Tok_empty_7 : decode cC_Tok_empty 7 = .ok (.putfield 15, 3) := by decide +kernel
theorem dC_Tok_empty_10 : decode cC_Tok_empty 10 = .ok (.aload_n 0, 1) := by decide +kernel
theorem dC_Tok_empty_11 : decode cC_Tok_empty 11 = .ok (.iconst (0), 1) := by decide +kernel
theorem dC_Tok_empty_12 : decode cC_Tok_empty 12 = .ok (.putfield 18, 3) := by decide +kernel
theorem dC_Tok_empty_15 : decode cC_Tok_empty 15 = .ok (.return_, 1) := by decide +kernel
abbrev cC_Tok_left : ByteArray := prog_12_method_4_code
def yC_Tok_left : MethodName := ⟨R_Tok, "left", "()I"⟩
theorem dC_Tok_left_0 : decode cC_Tok_left 0 = .ok (.aload_n 0, 1) := by decide +kernel
theorem dC_Tok_left_1 : decode cC_Tok_left 1 = .ok (.getfield 15, 3) := by decide +kernel
theorem dC_Tok_left_4 : decode cC_Tok_left 4 = .ok (.aload_n 0, 1) := by decide +kernel
theorem dC_Tok_left_5 : decode cC_Tok_left 5 = .ok (.getfield 18, 3) := by decide +kernel
theorem dC_Tok_left_8 : decode cC_Tok_left 8 = .ok (.isub, 1) := by decide +kernel
theorem dC_Tok_left_9 : decode cC_Tok_left 9 = .ok (.ireturn, 1) := by decide +kernel
abbrev cC_Tok_skip : ByteArray := prog_12_method_5_code
def yC_Tok_skip : MethodName := ⟨R_Tok, "skip", "(I)V"⟩
theorem dC_Tok_skip_0 : decode cC_Tok_skip 0 = .ok (.aload_n 0, 1) := by decide +kernel
theorem dC_Tok_skip_1 : decode cC_Tok_skip 1 = .ok (.aload_n 0, 1) := by decide +kernel
theorem dC_Tok_skip_2 : decode cC_Tok_skip 2 = .ok (.getfield 18, 3) := by decide +kernel
theorem dC_Tok_skip_5 : decode cC_Tok_skip 5 = .ok (.iload_n 1, 1) := by decide +kernel
theorem dC_Tok_skip_6 : decode cC_Tok_skip 6 = .ok (.iadd, 1) := by decide +kernel
theorem dC_Tok_skip_7 : decode cC_Tok_skip 7 = .ok (.aload_n 0, 1) := by decide +kernel
theorem dC_Tok_skip_8 : decode cC_Tok_skip 8 = .ok (.getfield 15, 3) := by decide +kernel
theorem dC_Tok_skip_11 : decode cC_Tok_skip 11 = .ok (.invokestatic 37, 3) := by decide +kernel
theorem dC_Tok_skip_14 : decode cC_Tok_skip 14 = .ok (.putfield 18, 3) := by decide +kernel
theorem dC_Tok_skip_17 : decode cC_Tok_skip 17 = .ok (.return_, 1) := by decide +kernel
abbrev cC_Tok_kind : ByteArray := prog_12_method_6_code
def yC_Tok_kind : MethodName := ⟨R_Tok, "kind", "(I)I"⟩
theorem dC_Tok_kind_0 : decode cC_Tok_kind 0 = .ok (.aload_n 0, 1) := by decide +kernel
theorem dC_Tok_kind_1 : decode cC_Tok_kind 1 = .ok (.getfield 18, 3) := by decide +kernel
theorem dC_Tok_kind_4 : decode cC_Tok_kind 4 = .ok (.iload_n 1, 1) := by decide +kernel
theorem dC_Tok_kind_5 : decode cC_Tok_kind 5 = .ok (.iadd, 1) := by decide +kernel
theorem dC_Tok_kind_6 : decode cC_Tok_kind 6 = .ok (.istore_n 2, 1) := by decide +kernel
theorem dC_Tok_kind_7 : decode cC_Tok_kind 7 = .ok (.iload_n 2, 1) := by decide +kernel
theorem dC_Tok_kind_8 : decode cC_Tok_kind 8 = .ok (.ifCond .lt (29), 3) := by decide +kernel
theorem dC_Tok_kind_11 : decode cC_Tok_kind 11 = .ok (.iload_n 2, 1) := by decide +kernel
theorem dC_Tok_kind_12 : decode cC_Tok_kind 12 = .ok (.aload_n 0, 1) := by decide +kernel
theorem dC_Tok_kind_13 : decode cC_Tok_kind 13 = .ok (.getfield 15, 3) := by decide +kernel
theorem dC_Tok_kind_16 : decode cC_Tok_kind 16 = .ok (.if_icmp .ge (21), 3) := by decide +kernel
theorem dC_Tok_kind_19 : decode cC_Tok_kind 19 = .ok (.iload_n 2, 1) := by decide +kernel
theorem dC_Tok_kind_20 : decode cC_Tok_kind 20 = .ok (.aload_n 0, 1) := by decide +kernel
theorem dC_Tok_kind_21 : decode cC_Tok_kind 21 = .ok (.getfield 21, 3) := by decide +kernel
theorem dC_Tok_kind_24 : decode cC_Tok_kind 24 = .ok (.arraylength, 1) := by decide +kernel
theorem dC_Tok_kind_25 : decode cC_Tok_kind 25 = .ok (.if_icmp .ge (12), 3) := by decide +kernel
theorem dC_Tok_kind_28 : decode cC_Tok_kind 28 = .ok (.aload_n 0, 1) := by decide +kernel
theorem dC_Tok_kind_29 : decode cC_Tok_kind 29 = .ok (.getfield 21, 3) := by decide +kernel
theorem dC_Tok_kind_32 : decode cC_Tok_kind 32 = .ok (.iload_n 2, 1) := by decide +kernel
theorem dC_Tok_kind_33 : decode cC_Tok_kind 33 = .ok (.iaload, 1) := by decide +kernel
theorem dC_Tok_kind_34 : decode cC_Tok_kind 34 = .ok (.goto (4), 3) := by decide +kernel
theorem dC_Tok_kind_37 : decode cC_Tok_kind 37 = .ok (.iconst (0), 1) := by decide +kernel
theorem dC_Tok_kind_38 : decode cC_Tok_kind 38 = .ok (.ireturn, 1) := by decide +kernel
abbrev cC_Tok_value : ByteArray := prog_12_method_7_code
def yC_Tok_value : MethodName := ⟨R_Tok, "value", "(I)I"⟩
theorem dC_Tok_value_0 : decode cC_Tok_value 0 = .ok (.aload_n 0, 1) := by decide +kernel
theorem dC_Tok_value_1 : decode cC_Tok_value 1 = .ok (.getfield 18, 3) := by decide +kernel
theorem dC_Tok_value_4 : decode cC_Tok_value 4 = .ok (.iload_n 1, 1) := by decide +kernel
theorem dC_Tok_value_5 : decode cC_Tok_value 5 = .ok (.iadd, 1) := by decide +kernel
theorem dC_Tok_value_6 : decode cC_Tok_value 6 = .ok (.istore_n 2, 1) := by decide +kernel
theorem dC_Tok_value_7 : decode cC_Tok_value 7 = .ok (.iload_n 2, 1) := by decide +kernel
theorem dC_Tok_value_8 : decode cC_Tok_value 8 = .ok (.ifCond .lt (29), 3) := by decide +kernel
theorem dC_Tok_value_11 : decode cC_Tok_value 11 = .ok (.iload_n 2, 1) := by decide +kernel
theorem dC_Tok_value_12 : decode cC_Tok_value 12 = .ok (.aload_n 0, 1) := by decide +kernel
theorem dC_Tok_value_13 : decode cC_Tok_value 13 = .ok (.getfield 15, 3) := by decide +kernel
theorem dC_Tok_value_16 : decode cC_Tok_value 16 = .ok (.if_icmp .ge (21), 3) := by decide +kernel
theorem dC_Tok_value_19 : decode cC_Tok_value 19 = .ok (.iload_n 2, 1) := by decide +kernel
theorem dC_Tok_value_20 : decode cC_Tok_value 20 = .ok (.aload_n 0, 1) := by decide +kernel
theorem dC_Tok_value_21 : decode cC_Tok_value 21 = .ok (.getfield 25, 3) := by decide +kernel
theorem dC_Tok_value_24 : decode cC_Tok_value 24 = .ok (.arraylength, 1) := by decide +kernel
theorem dC_Tok_value_25 : decode cC_Tok_value 25 = .ok (.if_icmp .ge (12), 3) := by decide +kernel
theorem dC_Tok_value_28 : decode cC_Tok_value 28 = .ok (.aload_n 0, 1) := by decide +kernel
theorem dC_Tok_value_29 : decode cC_Tok_value 29 = .ok (.getfield 25, 3) := by decide +kernel
theorem dC_Tok_value_32 : decode cC_Tok_value 32 = .ok (.iload_n 2, 1) := by decide +kernel
theorem dC_Tok_value_33 : decode cC_Tok_value 33 = .ok (.iaload, 1) := by decide +kernel
theorem dC_Tok_value_34 : decode cC_Tok_value 34 = .ok (.goto (4), 3) := by decide +kernel
theorem dC_Tok_value_37 : decode cC_Tok_value 37 = .ok (.iconst (0), 1) := by decide +kernel
theorem dC_Tok_value_38 : decode cC_Tok_value 38 = .ok (.ireturn, 1) := by decide +kernel
abbrev cC_Tok_length : ByteArray := prog_12_method_8_code
def yC_Tok_length : MethodName := ⟨R_Tok, "length", "()I"⟩
theorem dC_Tok_length_0 : decode cC_Tok_length 0 = .ok (.aload_n 0, 1) := by decide +kernel
theorem dC_Tok_length_1 : decode cC_Tok_length 1 = .ok (.getfield 18, 3) := by decide +kernel
theorem dC_Tok_length_4 : decode cC_Tok_length 4 = .ok (.ifCond .lt (38), 3) := by decide +kernel
theorem dC_Tok_length_7 : decode cC_Tok_length 7 = .ok (.aload_n 0, 1) := by decide +kernel
theorem dC_Tok_length_8 : decode cC_Tok_length 8 = .ok (.getfield 18, 3) := by decide +kernel
theorem dC_Tok_length_11 : decode cC_Tok_length 11 = .ok (.aload_n 0, 1) := by decide +kernel
theorem dC_Tok_length_12 : decode cC_Tok_length 12 = .ok (.getfield 15, 3) := by decide +kernel
theorem dC_Tok_length_15 : decode cC_Tok_length 15 = .ok (.if_icmp .ge (27), 3) := by decide +kernel
theorem dC_Tok_length_18 : decode cC_Tok_length 18 = .ok (.aload_n 0, 1) := by decide +kernel
theorem dC_Tok_length_19 : decode cC_Tok_length 19 = .ok (.getfield 18, 3) := by decide +kernel
theorem dC_Tok_length_22 : decode cC_Tok_length 22 = .ok (.aload_n 0, 1) := by decide +kernel
theorem dC_Tok_length_23 : decode cC_Tok_length 23 = .ok (.getfield 28, 3) := by decide +kernel
theorem dC_Tok_length_26 : decode cC_Tok_length 26 = .ok (.arraylength, 1) := by decide +kernel
theorem dC_Tok_length_27 : decode cC_Tok_length 27 = .ok (.if_icmp .ge (15), 3) := by decide +kernel
theorem dC_Tok_length_30 : decode cC_Tok_length 30 = .ok (.aload_n 0, 1) := by decide +kernel
theorem dC_Tok_length_31 : decode cC_Tok_length 31 = .ok (.getfield 28, 3) := by decide +kernel
theorem dC_Tok_length_34 : decode cC_Tok_length 34 = .ok (.aload_n 0, 1) := by decide +kernel
theorem dC_Tok_length_35 : decode cC_Tok_length 35 = .ok (.getfield 18, 3) := by decide +kernel
theorem dC_Tok_length_38 : decode cC_Tok_length 38 = .ok (.iaload, 1) := by decide +kernel
theorem dC_Tok_length_39 : decode cC_Tok_length 39 = .ok (.goto (4), 3) := by decide +kernel
theorem dC_Tok_length_42 : decode cC_Tok_length 42 = .ok (.iconst (0), 1) := by decide +kernel
theorem dC_Tok_length_43 : decode cC_Tok_length 43 = .ok (.ireturn, 1) := by decide +kernel
section
variable {p : Program} {l : Launch} {e : Env} {s : State} {m : MethodId} {args : Array Value} {below : List Frame} {meth : Method} {c : Code} {D : va_G} {dA : Nat → ClassId} {z : Nat → Nat} {o b i : Nat → Nat} {A : Nat → Prop}
def C_Row_get_22 (t0 : Int32) (sX : CS) : Option Int32 :=
  some t0
set_option maxHeartbeats 4000000 in
set_option maxRecDepth 100000 in
theorem bC_Row_get_22  {r : Int32} (C : CxC R_Row p s m args meth c cC_Row_get 2 (some .int) D dA z A) (t0 : Int32) (sX : CS) (hM : C_Row_get_22  t0 sX = some r) (hW : WdC D A s (w_Row dA o b sX) s.heap []) (ls : Array Slot) (hl : lv_has ls 2 []) : W p l e (rmC 0 0 0 0) s m args below meth c s.heap [] 0 0 (MQ below (QS (some (.int r))) args s 0 0 (fun _ => False)) (F0 m 22 ls [.int t0]) := by
  have hx := C.1.1
  have hb := C.1.2.1
  have hown := C.1.2.2.2.2.1
  have hT := C.1.2.2.2.2.2.1
  unfold C_Row_get_22 at hM
  obtain rfl := sm_i hM
  exact x_retS (pc := 22) C.1 rfl dC_Row_get_22
def C_Row_get_21  (sX : CS) : Option Int32 :=
  C_Row_get_22  (0 : Int32) sX
set_option maxHeartbeats 4000000 in
set_option maxRecDepth 100000 in
theorem bC_Row_get_21  {r : Int32} (C : CxC R_Row p s m args meth c cC_Row_get 2 (some .int) D dA z A)  (sX : CS) (hM : C_Row_get_21   sX = some r) (hW : WdC D A s (w_Row dA o b sX) s.heap []) (ls : Array Slot) (hl : lv_has ls 2 []) : W p l e (rmC 0 0 0 0) s m args below meth c s.heap [] 0 0 (MQ below (QS (some (.int r))) args s 0 0 (fun _ => False)) (F0 m 21 ls []) := by
  have hx := C.1.1
  have hb := C.1.2.1
  have hown := C.1.2.2.2.2.1
  have hT := C.1.2.2.2.2.2.1
  unfold C_Row_get_21 at hM
  refine lv_iconst (pc := 21) (v := 0) hx hb dC_Row_get_21 (by decide) ?_
  exact bC_Row_get_22  C  _ _ hM hW _ (lv_sub hl [] rfl)
def C_Row_get (x1 : Int32) (sX : CS) : Option Int32 :=
  (if x1 < 0 then C_Row_get_21  sX else (if (sX.1 0) ≤ x1 then C_Row_get_21  sX else gd (inB x1 (sX.2.2 0)) (C_Row_get_22  (sX.2.1 0 x1.toNatClampNeg) sX)))
set_option maxHeartbeats 4000000 in
set_option maxRecDepth 100000 in
theorem bC_Row_get_0  {r : Int32} (C : CxC R_Row p s m args meth c cC_Row_get 2 (some .int) D dA z A) (x1 : Int32) (sX : CS) (hM : C_Row_get  x1 sX = some r) (hW : WdC D A s (w_Row dA o b sX) s.heap []) (ls : Array Slot) (hl : lv_has ls 2 [(0, .ref (o 0)), (1, .int x1)]) : W p l e (rmC 0 0 0 0) s m args below meth c s.heap [] 0 0 (MQ below (QS (some (.int r))) args s 0 0 (fun _ => False)) (F0 m 0 ls []) := by
  have hx := C.1.1
  have hb := C.1.2.1
  have hown := C.1.2.2.2.2.1
  have hT := C.1.2.2.2.2.2.1
  unfold C_Row_get at hM
  refine lv_iload_n (pc := 0) hx hb dC_Row_get_0 rfl (lv_at hl 1 rfl) ?_
  refine lv_if_lt (pc := 1) (tgt := 21) hx hb dC_Row_get_1 (by decide) (fun hc => ?_) (fun hc => ?_)
  · replace hM := it_t hc hM
    exact bC_Row_get_21  C  _ hM hW _ (lv_sub hl [] rfl)
  · replace hM := it_f hc hM
    refine lv_iload_n (pc := 4) hx hb dC_Row_get_4 rfl (lv_at hl 1 rfl) ?_
    refine lv_aload_n (pc := 5) hx hb dC_Row_get_5 rfl (lv_at hl 0 rfl) ?_
    refine x_getC (pc := 6) C hW 0 rfl (ci := 1) rfl i_Row 0 (by decide) qc_52 rfl rfl dC_Row_get_6 ?_
    refine lv_icmp_ge (pc := 9) (tgt := 21) hx hb dC_Row_get_9 (by decide) (fun hc => ?_) (fun hc => ?_)
    · replace hM := it_t hc hM
      exact bC_Row_get_21  C  _ hM hW _ (lv_sub hl [] rfl)
    · replace hM := it_f hc hM
      refine lv_aload_n (pc := 12) hx hb dC_Row_get_12 rfl (lv_at hl 0 rfl) ?_
      refine x_getC (pc := 13) C hW 0 rfl (ci := 1) rfl i_Row 1 (by decide) qc_57 rfl rfl dC_Row_get_13 ?_
      refine lv_iload_n (pc := 16) hx hb dC_Row_get_16 rfl (lv_at hl 1 rfl) ?_
      obtain ⟨hg1, hM⟩ := gd_some hM
      refine x_ldIC (pc := 17) C hW 1 rfl hg1 dC_Row_get_17 ?_
      refine lv_goto (pc := 18) (tgt := 22) hx hb dC_Row_get_18 (by decide) ?_
      exact bC_Row_get_22  C  _ _ hM hW _ (lv_sub hl [] rfl)
theorem kC_Row_get (l : Launch) (D : va_G) (dA : Nat → ClassId) (z : Nat → Nat) (o b : Nat → Nat) (x1 : Int32) (sX : CS) {r : Int32} (hM : C_Row_get x1 sX = some r) : KQ l D dA z yC_Row_get cC_Row_get 2 (some .int) 0 0 (w_Row dA o b sX) [.ref (o 0), .int x1] (some (.int r)) := x_enterQ (by decide +kernel) (Nat.le_of_ble_eq_true rfl) (fun p e s m args below meth c A C hW ls hl => bC_Row_get_0 C x1 sX hM hW ls hl)
def C_Row_set_19  (sX : CS) : Option (Int32 × CS) :=
  some ((0 : Int32), sX)
set_option maxHeartbeats 4000000 in
set_option maxRecDepth 100000 in
theorem bC_Row_set_19  {r : Int32} {u : CS} (C : CxC R_Row p s m args meth c cC_Row_set 3 none D dA z A)  (sX : CS) (hM : C_Row_set_19   sX = some (r, u)) (H : Heap) (locs : List Loc) (hW : WdC D A s (w_Row dA o b sX) H locs) (ls : Array Slot) (hl : lv_has ls 3 []) : W p l e (rmC 0 0 0 0) s m args below meth c H locs 0 0 (MQ below (QC D A (fun Ws' ov => Ws' = (w_Row dA o b u) ∧ ov = none)) args s 0 0 A) (F0 m 19 ls []) := by
  have hx := C.1.1
  have hb := C.1.2.1
  have hown := C.1.2.2.2.2.1
  have hT := C.1.2.2.2.2.2.1
  unfold C_Row_set_19 at hM
  obtain ⟨rfl, rfl⟩ := sm_p hM
  exact x_retCv (pc := 19) C rfl hW ⟨rfl, rfl⟩ (Nat.le_refl 0) (Nat.le_refl 0) dC_Row_set_19
def C_Row_set (x1 : Int32) (x2 : Int32) (sX : CS) : Option (Int32 × CS) :=
  (if x1 < 0 then C_Row_set_19  sX else (if (sX.1 0) ≤ x1 then C_Row_set_19  sX else gd (inB x1 (sX.2.2 0)) (bnd (cA sX 0 x1.toNatClampNeg x2) (fun sX2 => C_Row_set_19  sX2))))
set_option maxHeartbeats 4000000 in
set_option maxRecDepth 100000 in
theorem bC_Row_set_0  {r : Int32} {u : CS} (C : CxC R_Row p s m args meth c cC_Row_set 3 none D dA z A) (x1 : Int32) (x2 : Int32) (sX : CS) (hM : C_Row_set  x1 x2 sX = some (r, u)) (H : Heap) (locs : List Loc) (hW : WdC D A s (w_Row dA o b sX) H locs) (ls : Array Slot) (hl : lv_has ls 3 [(0, .ref (o 0)), (1, .int x1), (2, .int x2)]) : W p l e (rmC 0 0 0 0) s m args below meth c H locs 0 0 (MQ below (QC D A (fun Ws' ov => Ws' = (w_Row dA o b u) ∧ ov = none)) args s 0 0 A) (F0 m 0 ls []) := by
  have hx := C.1.1
  have hb := C.1.2.1
  have hown := C.1.2.2.2.2.1
  have hT := C.1.2.2.2.2.2.1
  unfold C_Row_set at hM
  refine lv_iload_n (pc := 0) hx hb dC_Row_set_0 rfl (lv_at hl 1 rfl) ?_
  refine lv_if_lt (pc := 1) (tgt := 19) hx hb dC_Row_set_1 (by decide) (fun hc => ?_) (fun hc => ?_)
  · replace hM := it_t hc hM
    exact bC_Row_set_19  C  _ hM _ _ hW _ (lv_sub hl [] rfl)
  · replace hM := it_f hc hM
    refine lv_iload_n (pc := 4) hx hb dC_Row_set_4 rfl (lv_at hl 1 rfl) ?_
    refine lv_aload_n (pc := 5) hx hb dC_Row_set_5 rfl (lv_at hl 0 rfl) ?_
    refine x_getC (pc := 6) C hW 0 rfl (ci := 1) rfl i_Row 0 (by decide) qc_52 rfl rfl dC_Row_set_6 ?_
    refine lv_icmp_ge (pc := 9) (tgt := 19) hx hb dC_Row_set_9 (by decide) (fun hc => ?_) (fun hc => ?_)
    · replace hM := it_t hc hM
      exact bC_Row_set_19  C  _ hM _ _ hW _ (lv_sub hl [] rfl)
    · replace hM := it_f hc hM
      refine lv_aload_n (pc := 12) hx hb dC_Row_set_12 rfl (lv_at hl 0 rfl) ?_
      refine x_getC (pc := 13) C hW 0 rfl (ci := 1) rfl i_Row 1 (by decide) qc_57 rfl rfl dC_Row_set_13 ?_
      refine lv_iload_n (pc := 16) hx hb dC_Row_set_16 rfl (lv_at hl 1 rfl) ?_
      refine lv_iload_n (pc := 17) hx hb dC_Row_set_17 rfl (lv_at hl 2 rfl) ?_
      obtain ⟨hg1, hM⟩ := gd_some hM
      refine x_stIC (pc := 18) (Ws' := (w_Row dA o b (cA sX 0 x1.toNatClampNeg x2))) C hW 1 rfl hg1 rfl dC_Row_set_18 (fun H locs hW => ?_)
      obtain ⟨sX2, esX2, hM⟩ := bnd_some hM
      rw [← esX2] at hW
      exact bC_Row_set_19  C  _ hM _ _ hW _ (lv_sub hl [] rfl)
theorem kC_Row_set (l : Launch) (D : va_G) (dA : Nat → ClassId) (z : Nat → Nat) (o b : Nat → Nat) (x1 : Int32) (x2 : Int32) (sX : CS) {r : Int32} {u : CS} (hM : C_Row_set x1 x2 sX = some (r, u)) : KC l D dA z yC_Row_set cC_Row_set 3 none 0 0 0 0 (w_Row dA o b sX) [.ref (o 0), .int x1, .int x2] (fun Ws' ov => Ws' = (w_Row dA o b u) ∧ ov = none) := x_enterC (by decide +kernel) (Nat.le_of_ble_eq_true rfl) (fun p e s m args below meth c A C _ hW ls hl => bC_Row_set_0 C x1 x2 sX hM s.heap [] hW ls hl)
def C_Row_cut_17  (sX : CS) : Option (Int32 × CS) :=
  some ((0 : Int32), sX)
set_option maxHeartbeats 4000000 in
set_option maxRecDepth 100000 in
theorem bC_Row_cut_17  {r : Int32} {u : CS} (C : CxC R_Row p s m args meth c cC_Row_cut 2 none D dA z A)  (sX : CS) (hM : C_Row_cut_17   sX = some (r, u)) (H : Heap) (locs : List Loc) (hW : WdC D A s (w_Row dA o b sX) H locs) (ls : Array Slot) (hl : lv_has ls 2 []) : W p l e (rmC 0 0 0 0) s m args below meth c H locs 0 0 (MQ below (QC D A (fun Ws' ov => Ws' = (w_Row dA o b u) ∧ ov = none)) args s 0 0 A) (F0 m 17 ls []) := by
  have hx := C.1.1
  have hb := C.1.2.1
  have hown := C.1.2.2.2.2.1
  have hT := C.1.2.2.2.2.2.1
  unfold C_Row_cut_17 at hM
  obtain ⟨rfl, rfl⟩ := sm_p hM
  exact x_retCv (pc := 17) C rfl hW ⟨rfl, rfl⟩ (Nat.le_refl 0) (Nat.le_refl 0) dC_Row_cut_17
def C_Row_cut (x1 : Int32) (sX : CS) : Option (Int32 × CS) :=
  (if x1 < 0 then C_Row_cut_17  sX else (if (sX.1 0) ≤ x1 then C_Row_cut_17  sX else bnd (cF sX 0 x1) (fun sX1 => C_Row_cut_17  sX1)))
set_option maxHeartbeats 4000000 in
set_option maxRecDepth 100000 in
theorem bC_Row_cut_0  {r : Int32} {u : CS} (C : CxC R_Row p s m args meth c cC_Row_cut 2 none D dA z A) (x1 : Int32) (sX : CS) (hM : C_Row_cut  x1 sX = some (r, u)) (H : Heap) (locs : List Loc) (hW : WdC D A s (w_Row dA o b sX) H locs) (ls : Array Slot) (hl : lv_has ls 2 [(0, .ref (o 0)), (1, .int x1)]) : W p l e (rmC 0 0 0 0) s m args below meth c H locs 0 0 (MQ below (QC D A (fun Ws' ov => Ws' = (w_Row dA o b u) ∧ ov = none)) args s 0 0 A) (F0 m 0 ls []) := by
  have hx := C.1.1
  have hb := C.1.2.1
  have hown := C.1.2.2.2.2.1
  have hT := C.1.2.2.2.2.2.1
  unfold C_Row_cut at hM
  refine lv_iload_n (pc := 0) hx hb dC_Row_cut_0 rfl (lv_at hl 1 rfl) ?_
  refine lv_if_lt (pc := 1) (tgt := 17) hx hb dC_Row_cut_1 (by decide) (fun hc => ?_) (fun hc => ?_)
  · replace hM := it_t hc hM
    exact bC_Row_cut_17  C  _ hM _ _ hW _ (lv_sub hl [] rfl)
  · replace hM := it_f hc hM
    refine lv_iload_n (pc := 4) hx hb dC_Row_cut_4 rfl (lv_at hl 1 rfl) ?_
    refine lv_aload_n (pc := 5) hx hb dC_Row_cut_5 rfl (lv_at hl 0 rfl) ?_
    refine x_getC (pc := 6) C hW 0 rfl (ci := 1) rfl i_Row 0 (by decide) qc_52 rfl rfl dC_Row_cut_6 ?_
    refine lv_icmp_ge (pc := 9) (tgt := 17) hx hb dC_Row_cut_9 (by decide) (fun hc => ?_) (fun hc => ?_)
    · replace hM := it_t hc hM
      exact bC_Row_cut_17  C  _ hM _ _ hW _ (lv_sub hl [] rfl)
    · replace hM := it_f hc hM
      refine lv_aload_n (pc := 12) hx hb dC_Row_cut_12 rfl (lv_at hl 0 rfl) ?_
      refine lv_iload_n (pc := 13) hx hb dC_Row_cut_13 rfl (lv_at hl 1 rfl) ?_
      refine x_putC (pc := 14) (ty := .int) (Ws' := (w_Row dA o b (cF sX 0 x1))) C hW 0 rfl (ci := 1) rfl i_Row tok_Row n_Row 0 (by decide) qc_52 rfl rfl (by decide +kernel) rfl rfl (Nat.le_of_ble_eq_true rfl) rfl dC_Row_cut_14 (fun H locs hW => ?_)
      obtain ⟨sX1, esX1, hM⟩ := bnd_some hM
      rw [← esX1] at hW
      exact bC_Row_cut_17  C  _ hM _ _ hW _ (lv_sub hl [] rfl)
theorem kC_Row_cut (l : Launch) (D : va_G) (dA : Nat → ClassId) (z : Nat → Nat) (o b : Nat → Nat) (x1 : Int32) (sX : CS) {r : Int32} {u : CS} (hM : C_Row_cut x1 sX = some (r, u)) : KC l D dA z yC_Row_cut cC_Row_cut 2 none 0 0 0 0 (w_Row dA o b sX) [.ref (o 0), .int x1] (fun Ws' ov => Ws' = (w_Row dA o b u) ∧ ov = none) := x_enterC (by decide +kernel) (Nat.le_of_ble_eq_true rfl) (fun p e s m args below meth c A C _ hW ls hl => bC_Row_cut_0 C x1 sX hM s.heap [] hW ls hl)
def C_Tok_empty  (sT : CS) : Option (Int32 × CS) :=
  bnd (cF sT 0 (0 : Int32)) (fun sT1 => bnd (cF sT1 1 (0 : Int32)) (fun sT2 => bnd (cF sT2 2 (0 : Int32)) (fun sT3 => some ((0 : Int32), sT3))))
set_option maxHeartbeats 4000000 in
set_option maxRecDepth 100000 in
theorem bC_Tok_empty_0  {r : Int32} {u : CS} (C : CxC R_Tok p s m args meth c cC_Tok_empty 1 none D dA z A)  (sT : CS) (hM : C_Tok_empty   sT = some (r, u)) (H : Heap) (locs : List Loc) (hW : WdC D A s (w_Tok dA o b sT) H locs) (ls : Array Slot) (hl : lv_has ls 1 [(0, .ref (o 32))]) : W p l e (rmC 0 0 0 0) s m args below meth c H locs 0 0 (MQ below (QC D A (fun Ws' ov => Ws' = (w_Tok dA o b u) ∧ ov = none)) args s 0 0 A) (F0 m 0 ls []) := by
  have hx := C.1.1
  have hb := C.1.2.1
  have hown := C.1.2.2.2.2.1
  have hT := C.1.2.2.2.2.2.1
  unfold C_Tok_empty at hM
  refine lv_aload_n (pc := 0) hx hb dC_Tok_empty_0 rfl (lv_at hl 0 rfl) ?_
  refine lv_iconst (pc := 1) (v := 0) hx hb dC_Tok_empty_1 (by decide) ?_
  refine x_putC (pc := 2) (ty := .int) (Ws' := (w_Tok dA o b (cF sT 0 (0 : Int32)))) C hW 0 rfl (ci := 3) rfl i_Tok tok_Tok n_Tok 0 (by decide) qc_276 rfl rfl (by decide +kernel) rfl rfl (Nat.le_of_ble_eq_true rfl) rfl dC_Tok_empty_2 (fun H locs hW => ?_)
  obtain ⟨sT1, esT1, hM⟩ := bnd_some hM
  rw [← esT1] at hW
  refine lv_aload_n (pc := 5) hx hb dC_Tok_empty_5 rfl (lv_at hl 0 rfl) ?_
  refine lv_iconst (pc := 6) (v := 0) hx hb dC_Tok_empty_6 (by decide) ?_
  refine x_putC (pc := 7) (ty := .int) (Ws' := (w_Tok dA o b (cF sT1 1 (0 : Int32)))) C hW 0 rfl (ci := 3) rfl i_Tok tok_Tok n_Tok 1 (by decide) qc_278 rfl rfl (by decide +kernel) rfl rfl (Nat.le_of_ble_eq_true rfl) rfl dC_Tok_empty_7 (fun H locs hW => ?_)
  obtain ⟨sT2, esT2, hM⟩ := bnd_some hM
  rw [← esT2] at hW
  refine lv_aload_n (pc := 10) hx hb dC_Tok_empty_10 rfl (lv_at hl 0 rfl) ?_
  refine lv_iconst (pc := 11) (v := 0) hx hb dC_Tok_empty_11 (by decide) ?_
  refine x_putC (pc := 12) (ty := .int) (Ws' := (w_Tok dA o b (cF sT2 2 (0 : Int32)))) C hW 0 rfl (ci := 3) rfl i_Tok tok_Tok n_Tok 2 (by decide) qc_279 rfl rfl (by decide +kernel) rfl rfl (Nat.le_of_ble_eq_true rfl) rfl dC_Tok_empty_12 (fun H locs hW => ?_)
  obtain ⟨sT3, esT3, hM⟩ := bnd_some hM
  rw [← esT3] at hW
  obtain ⟨rfl, rfl⟩ := sm_p hM
  exact x_retCv (pc := 15) C rfl hW ⟨rfl, rfl⟩ (Nat.le_refl 0) (Nat.le_refl 0) dC_Tok_empty_15
theorem kC_Tok_empty (l : Launch) (D : va_G) (dA : Nat → ClassId) (z : Nat → Nat) (o b : Nat → Nat)  (sT : CS) {r : Int32} {u : CS} (hM : C_Tok_empty  sT = some (r, u)) : KC l D dA z yC_Tok_empty cC_Tok_empty 1 none 0 0 0 0 (w_Tok dA o b sT) [.ref (o 32)] (fun Ws' ov => Ws' = (w_Tok dA o b u) ∧ ov = none) := x_enterC (by decide +kernel) (Nat.le_of_ble_eq_true rfl) (fun p e s m args below meth c A C _ hW ls hl => bC_Tok_empty_0 C  sT hM s.heap [] hW ls hl)
def C_Tok_left  (sT : CS) : Option Int32 :=
  some ((sT.1 1) - (sT.1 2))
set_option maxHeartbeats 4000000 in
set_option maxRecDepth 100000 in
theorem bC_Tok_left_0  {r : Int32} (C : CxC R_Tok p s m args meth c cC_Tok_left 1 (some .int) D dA z A)  (sT : CS) (hM : C_Tok_left   sT = some r) (hW : WdC D A s (w_Tok dA o b sT) s.heap []) (ls : Array Slot) (hl : lv_has ls 1 [(0, .ref (o 32))]) : W p l e (rmC 0 0 0 0) s m args below meth c s.heap [] 0 0 (MQ below (QS (some (.int r))) args s 0 0 (fun _ => False)) (F0 m 0 ls []) := by
  have hx := C.1.1
  have hb := C.1.2.1
  have hown := C.1.2.2.2.2.1
  have hT := C.1.2.2.2.2.2.1
  unfold C_Tok_left at hM
  refine lv_aload_n (pc := 0) hx hb dC_Tok_left_0 rfl (lv_at hl 0 rfl) ?_
  refine x_getC (pc := 1) C hW 0 rfl (ci := 3) rfl i_Tok 1 (by decide) qc_278 rfl rfl dC_Tok_left_1 ?_
  refine lv_aload_n (pc := 4) hx hb dC_Tok_left_4 rfl (lv_at hl 0 rfl) ?_
  refine x_getC (pc := 5) C hW 0 rfl (ci := 3) rfl i_Tok 2 (by decide) qc_279 rfl rfl dC_Tok_left_5 ?_
  refine lv_isub (pc := 8) hx hb dC_Tok_left_8 ?_
  obtain rfl := sm_i hM
  exact x_retS (pc := 9) C.1 rfl dC_Tok_left_9
theorem kC_Tok_left (l : Launch) (D : va_G) (dA : Nat → ClassId) (z : Nat → Nat) (o b : Nat → Nat)  (sT : CS) {r : Int32} (hM : C_Tok_left  sT = some r) : KQ l D dA z yC_Tok_left cC_Tok_left 1 (some .int) 0 0 (w_Tok dA o b sT) [.ref (o 32)] (some (.int r)) := x_enterQ (by decide +kernel) (Nat.le_of_ble_eq_true rfl) (fun p e s m args below meth c A C hW ls hl => bC_Tok_left_0 C  sT hM hW ls hl)
def C_Tok_skip (x1 : Int32) (sT : CS) : Option (Int32 × CS) :=
  bnd (cF sT 2 (jmin ((sT.1 2) + x1) (sT.1 1))) (fun sT1 => some ((0 : Int32), sT1))
set_option maxHeartbeats 4000000 in
set_option maxRecDepth 100000 in
theorem bC_Tok_skip_0  {r : Int32} {u : CS} (C : CxC R_Tok p s m args meth c cC_Tok_skip 2 none D dA z A) (x1 : Int32) (sT : CS) (hM : C_Tok_skip  x1 sT = some (r, u)) (H : Heap) (locs : List Loc) (hW : WdC D A s (w_Tok dA o b sT) H locs) (ls : Array Slot) (hl : lv_has ls 2 [(0, .ref (o 32)), (1, .int x1)]) : W p l e (rmC 1 40 0 0) s m args below meth c H locs 0 0 (MQ below (QC D A (fun Ws' ov => Ws' = (w_Tok dA o b u) ∧ ov = none)) args s 0 0 A) (F0 m 0 ls []) := by
  have hx := C.1.1
  have hb := C.1.2.1
  have hown := C.1.2.2.2.2.1
  have hT := C.1.2.2.2.2.2.1
  unfold C_Tok_skip at hM
  refine lv_aload_n (pc := 0) hx hb dC_Tok_skip_0 rfl (lv_at hl 0 rfl) ?_
  refine lv_aload_n (pc := 1) hx hb dC_Tok_skip_1 rfl (lv_at hl 0 rfl) ?_
  refine x_getC (pc := 2) C hW 0 rfl (ci := 3) rfl i_Tok 2 (by decide) qc_279 rfl rfl dC_Tok_skip_2 ?_
  refine lv_iload_n (pc := 5) hx hb dC_Tok_skip_5 rfl (lv_at hl 1 rfl) ?_
  refine lv_iadd (pc := 6) hx hb dC_Tok_skip_6 ?_
  refine lv_aload_n (pc := 7) hx hb dC_Tok_skip_7 rfl (lv_at hl 0 rfl) ?_
  refine x_getC (pc := 8) C hW 0 rfl (ci := 3) rfl i_Tok 1 (by decide) qc_278 rfl rfl dC_Tok_skip_8 ?_
  refine va_mmin (pc := 11) hx hb (C.1.2.2.1.trans hl.1.symm) hown (hT _ qc_1121) (hT _ qc_87) (hT _ qc_5) (hT _ qc_88) (Nat.le_of_ble_eq_true rfl) (Nat.le_of_ble_eq_true rfl) (Nat.le_refl _) (Nat.le_refl _) dC_Tok_skip_11 ?_
  refine x_seti (b := jmin ((sT.1 2) + x1) (sT.1 1)) rfl ?_
  refine x_putC (pc := 14) (ty := .int) (Ws' := (w_Tok dA o b (cF sT 2 (jmin ((sT.1 2) + x1) (sT.1 1))))) C hW 0 rfl (ci := 3) rfl i_Tok tok_Tok n_Tok 2 (by decide) qc_279 rfl rfl (by decide +kernel) rfl rfl (Nat.le_of_ble_eq_true rfl) rfl dC_Tok_skip_14 (fun H locs hW => ?_)
  obtain ⟨sT1, esT1, hM⟩ := bnd_some hM
  rw [← esT1] at hW
  obtain ⟨rfl, rfl⟩ := sm_p hM
  exact x_retCv (pc := 17) C rfl hW ⟨rfl, rfl⟩ (Nat.le_refl 0) (Nat.le_refl 0) dC_Tok_skip_17
theorem kC_Tok_skip (l : Launch) (D : va_G) (dA : Nat → ClassId) (z : Nat → Nat) (o b : Nat → Nat) (x1 : Int32) (sT : CS) {r : Int32} {u : CS} (hM : C_Tok_skip x1 sT = some (r, u)) : KC l D dA z yC_Tok_skip cC_Tok_skip 2 none 1 40 0 0 (w_Tok dA o b sT) [.ref (o 32), .int x1] (fun Ws' ov => Ws' = (w_Tok dA o b u) ∧ ov = none) := x_enterC (by decide +kernel) (Nat.le_of_ble_eq_true rfl) (fun p e s m args below meth c A C _ hW ls hl => bC_Tok_skip_0 C x1 sT hM s.heap [] hW ls hl)
def C_Tok_kind_38 (t0 : Int32) (sT : CS) : Option Int32 :=
  some t0
set_option maxHeartbeats 4000000 in
set_option maxRecDepth 100000 in
theorem bC_Tok_kind_38  {r : Int32} (C : CxC R_Tok p s m args meth c cC_Tok_kind 3 (some .int) D dA z A) (t0 : Int32) (sT : CS) (hM : C_Tok_kind_38  t0 sT = some r) (hW : WdC D A s (w_Tok dA o b sT) s.heap []) (ls : Array Slot) (hl : lv_has ls 3 []) : W p l e (rmC 0 0 0 0) s m args below meth c s.heap [] 0 0 (MQ below (QS (some (.int r))) args s 0 0 (fun _ => False)) (F0 m 38 ls [.int t0]) := by
  have hx := C.1.1
  have hb := C.1.2.1
  have hown := C.1.2.2.2.2.1
  have hT := C.1.2.2.2.2.2.1
  unfold C_Tok_kind_38 at hM
  obtain rfl := sm_i hM
  exact x_retS (pc := 38) C.1 rfl dC_Tok_kind_38
def C_Tok_kind_37  (sT : CS) : Option Int32 :=
  C_Tok_kind_38  (0 : Int32) sT
set_option maxHeartbeats 4000000 in
set_option maxRecDepth 100000 in
theorem bC_Tok_kind_37  {r : Int32} (C : CxC R_Tok p s m args meth c cC_Tok_kind 3 (some .int) D dA z A)  (sT : CS) (hM : C_Tok_kind_37   sT = some r) (hW : WdC D A s (w_Tok dA o b sT) s.heap []) (ls : Array Slot) (hl : lv_has ls 3 []) : W p l e (rmC 0 0 0 0) s m args below meth c s.heap [] 0 0 (MQ below (QS (some (.int r))) args s 0 0 (fun _ => False)) (F0 m 37 ls []) := by
  have hx := C.1.1
  have hb := C.1.2.1
  have hown := C.1.2.2.2.2.1
  have hT := C.1.2.2.2.2.2.1
  unfold C_Tok_kind_37 at hM
  refine lv_iconst (pc := 37) (v := 0) hx hb dC_Tok_kind_37 (by decide) ?_
  exact bC_Tok_kind_38  C  _ _ hM hW _ (lv_sub hl [] rfl)
def C_Tok_kind (x1 : Int32) (sT : CS) : Option Int32 :=
  (if ((sT.1 2) + x1) < 0 then C_Tok_kind_37  sT else (if (sT.1 1) ≤ ((sT.1 2) + x1) then C_Tok_kind_37  sT else (if (nI (sT.2.2 0)) ≤ ((sT.1 2) + x1) then C_Tok_kind_37  sT else gd (inB ((sT.1 2) + x1) (sT.2.2 0)) (C_Tok_kind_38  (sT.2.1 0 ((sT.1 2) + x1).toNatClampNeg) sT))))
set_option maxHeartbeats 4000000 in
set_option maxRecDepth 100000 in
theorem bC_Tok_kind_0  {r : Int32} (C : CxC R_Tok p s m args meth c cC_Tok_kind 3 (some .int) D dA z A) (x1 : Int32) (sT : CS) (hM : C_Tok_kind  x1 sT = some r) (hW : WdC D A s (w_Tok dA o b sT) s.heap []) (ls : Array Slot) (hl : lv_has ls 3 [(0, .ref (o 32)), (1, .int x1)]) : W p l e (rmC 0 0 0 0) s m args below meth c s.heap [] 0 0 (MQ below (QS (some (.int r))) args s 0 0 (fun _ => False)) (F0 m 0 ls []) := by
  have hx := C.1.1
  have hb := C.1.2.1
  have hown := C.1.2.2.2.2.1
  have hT := C.1.2.2.2.2.2.1
  unfold C_Tok_kind at hM
  refine lv_aload_n (pc := 0) hx hb dC_Tok_kind_0 rfl (lv_at hl 0 rfl) ?_
  refine x_getC (pc := 1) C hW 0 rfl (ci := 3) rfl i_Tok 2 (by decide) qc_279 rfl rfl dC_Tok_kind_1 ?_
  refine lv_iload_n (pc := 4) hx hb dC_Tok_kind_4 rfl (lv_at hl 1 rfl) ?_
  refine lv_iadd (pc := 5) hx hb dC_Tok_kind_5 ?_
  refine lv_istore_n (pc := 6) (lv' := [(2, .int ((sT.1 2) + x1)), (0, .ref (o 32)), (1, .int x1)]) hx hb dC_Tok_kind_6 rfl hl (by decide) rfl (fun ls hl => ?_)
  refine lv_iload_n (pc := 7) hx hb dC_Tok_kind_7 rfl (lv_at hl 0 rfl) ?_
  refine lv_if_lt (pc := 8) (tgt := 37) hx hb dC_Tok_kind_8 (by decide) (fun hc => ?_) (fun hc => ?_)
  · replace hM := it_t hc hM
    exact bC_Tok_kind_37  C  _ hM hW _ (lv_sub hl [] rfl)
  · replace hM := it_f hc hM
    refine lv_iload_n (pc := 11) hx hb dC_Tok_kind_11 rfl (lv_at hl 0 rfl) ?_
    refine lv_aload_n (pc := 12) hx hb dC_Tok_kind_12 rfl (lv_at hl 1 rfl) ?_
    refine x_getC (pc := 13) C hW 0 rfl (ci := 3) rfl i_Tok 1 (by decide) qc_278 rfl rfl dC_Tok_kind_13 ?_
    refine lv_icmp_ge (pc := 16) (tgt := 37) hx hb dC_Tok_kind_16 (by decide) (fun hc => ?_) (fun hc => ?_)
    · replace hM := it_t hc hM
      exact bC_Tok_kind_37  C  _ hM hW _ (lv_sub hl [] rfl)
    · replace hM := it_f hc hM
      refine lv_iload_n (pc := 19) hx hb dC_Tok_kind_19 rfl (lv_at hl 0 rfl) ?_
      refine lv_aload_n (pc := 20) hx hb dC_Tok_kind_20 rfl (lv_at hl 1 rfl) ?_
      refine x_getC (pc := 21) C hW 0 rfl (ci := 3) rfl i_Tok 3 (by decide) qc_280 rfl rfl dC_Tok_kind_21 ?_
      refine x_alenC (pc := 24) C hW 1 rfl dC_Tok_kind_24 ?_
      refine lv_icmp_ge (pc := 25) (tgt := 37) hx hb dC_Tok_kind_25 (by decide) (fun hc => ?_) (fun hc => ?_)
      · replace hM := it_t hc hM
        exact bC_Tok_kind_37  C  _ hM hW _ (lv_sub hl [] rfl)
      · replace hM := it_f hc hM
        refine lv_aload_n (pc := 28) hx hb dC_Tok_kind_28 rfl (lv_at hl 1 rfl) ?_
        refine x_getC (pc := 29) C hW 0 rfl (ci := 3) rfl i_Tok 3 (by decide) qc_280 rfl rfl dC_Tok_kind_29 ?_
        refine lv_iload_n (pc := 32) hx hb dC_Tok_kind_32 rfl (lv_at hl 0 rfl) ?_
        obtain ⟨hg1, hM⟩ := gd_some hM
        refine x_ldIC (pc := 33) C hW 1 rfl hg1 dC_Tok_kind_33 ?_
        refine lv_goto (pc := 34) (tgt := 38) hx hb dC_Tok_kind_34 (by decide) ?_
        exact bC_Tok_kind_38  C  _ _ hM hW _ (lv_sub hl [] rfl)
theorem kC_Tok_kind (l : Launch) (D : va_G) (dA : Nat → ClassId) (z : Nat → Nat) (o b : Nat → Nat) (x1 : Int32) (sT : CS) {r : Int32} (hM : C_Tok_kind x1 sT = some r) : KQ l D dA z yC_Tok_kind cC_Tok_kind 3 (some .int) 0 0 (w_Tok dA o b sT) [.ref (o 32), .int x1] (some (.int r)) := x_enterQ (by decide +kernel) (Nat.le_of_ble_eq_true rfl) (fun p e s m args below meth c A C hW ls hl => bC_Tok_kind_0 C x1 sT hM hW ls hl)
def C_Tok_value_38 (t0 : Int32) (sT : CS) : Option Int32 :=
  some t0
set_option maxHeartbeats 4000000 in
set_option maxRecDepth 100000 in
theorem bC_Tok_value_38  {r : Int32} (C : CxC R_Tok p s m args meth c cC_Tok_value 3 (some .int) D dA z A) (t0 : Int32) (sT : CS) (hM : C_Tok_value_38  t0 sT = some r) (hW : WdC D A s (w_Tok dA o b sT) s.heap []) (ls : Array Slot) (hl : lv_has ls 3 []) : W p l e (rmC 0 0 0 0) s m args below meth c s.heap [] 0 0 (MQ below (QS (some (.int r))) args s 0 0 (fun _ => False)) (F0 m 38 ls [.int t0]) := by
  have hx := C.1.1
  have hb := C.1.2.1
  have hown := C.1.2.2.2.2.1
  have hT := C.1.2.2.2.2.2.1
  unfold C_Tok_value_38 at hM
  obtain rfl := sm_i hM
  exact x_retS (pc := 38) C.1 rfl dC_Tok_value_38
def C_Tok_value_37  (sT : CS) : Option Int32 :=
  C_Tok_value_38  (0 : Int32) sT
set_option maxHeartbeats 4000000 in
set_option maxRecDepth 100000 in
theorem bC_Tok_value_37  {r : Int32} (C : CxC R_Tok p s m args meth c cC_Tok_value 3 (some .int) D dA z A)  (sT : CS) (hM : C_Tok_value_37   sT = some r) (hW : WdC D A s (w_Tok dA o b sT) s.heap []) (ls : Array Slot) (hl : lv_has ls 3 []) : W p l e (rmC 0 0 0 0) s m args below meth c s.heap [] 0 0 (MQ below (QS (some (.int r))) args s 0 0 (fun _ => False)) (F0 m 37 ls []) := by
  have hx := C.1.1
  have hb := C.1.2.1
  have hown := C.1.2.2.2.2.1
  have hT := C.1.2.2.2.2.2.1
  unfold C_Tok_value_37 at hM
  refine lv_iconst (pc := 37) (v := 0) hx hb dC_Tok_value_37 (by decide) ?_
  exact bC_Tok_value_38  C  _ _ hM hW _ (lv_sub hl [] rfl)
def C_Tok_value (x1 : Int32) (sT : CS) : Option Int32 :=
  (if ((sT.1 2) + x1) < 0 then C_Tok_value_37  sT else (if (sT.1 1) ≤ ((sT.1 2) + x1) then C_Tok_value_37  sT else (if (nI (sT.2.2 1)) ≤ ((sT.1 2) + x1) then C_Tok_value_37  sT else gd (inB ((sT.1 2) + x1) (sT.2.2 1)) (C_Tok_value_38  (sT.2.1 1 ((sT.1 2) + x1).toNatClampNeg) sT))))
set_option maxHeartbeats 4000000 in
set_option maxRecDepth 100000 in
theorem bC_Tok_value_0  {r : Int32} (C : CxC R_Tok p s m args meth c cC_Tok_value 3 (some .int) D dA z A) (x1 : Int32) (sT : CS) (hM : C_Tok_value  x1 sT = some r) (hW : WdC D A s (w_Tok dA o b sT) s.heap []) (ls : Array Slot) (hl : lv_has ls 3 [(0, .ref (o 32)), (1, .int x1)]) : W p l e (rmC 0 0 0 0) s m args below meth c s.heap [] 0 0 (MQ below (QS (some (.int r))) args s 0 0 (fun _ => False)) (F0 m 0 ls []) := by
  have hx := C.1.1
  have hb := C.1.2.1
  have hown := C.1.2.2.2.2.1
  have hT := C.1.2.2.2.2.2.1
  unfold C_Tok_value at hM
  refine lv_aload_n (pc := 0) hx hb dC_Tok_value_0 rfl (lv_at hl 0 rfl) ?_
  refine x_getC (pc := 1) C hW 0 rfl (ci := 3) rfl i_Tok 2 (by decide) qc_279 rfl rfl dC_Tok_value_1 ?_
  refine lv_iload_n (pc := 4) hx hb dC_Tok_value_4 rfl (lv_at hl 1 rfl) ?_
  refine lv_iadd (pc := 5) hx hb dC_Tok_value_5 ?_
  refine lv_istore_n (pc := 6) (lv' := [(2, .int ((sT.1 2) + x1)), (0, .ref (o 32)), (1, .int x1)]) hx hb dC_Tok_value_6 rfl hl (by decide) rfl (fun ls hl => ?_)
  refine lv_iload_n (pc := 7) hx hb dC_Tok_value_7 rfl (lv_at hl 0 rfl) ?_
  refine lv_if_lt (pc := 8) (tgt := 37) hx hb dC_Tok_value_8 (by decide) (fun hc => ?_) (fun hc => ?_)
  · replace hM := it_t hc hM
    exact bC_Tok_value_37  C  _ hM hW _ (lv_sub hl [] rfl)
  · replace hM := it_f hc hM
    refine lv_iload_n (pc := 11) hx hb dC_Tok_value_11 rfl (lv_at hl 0 rfl) ?_
    refine lv_aload_n (pc := 12) hx hb dC_Tok_value_12 rfl (lv_at hl 1 rfl) ?_
    refine x_getC (pc := 13) C hW 0 rfl (ci := 3) rfl i_Tok 1 (by decide) qc_278 rfl rfl dC_Tok_value_13 ?_
    refine lv_icmp_ge (pc := 16) (tgt := 37) hx hb dC_Tok_value_16 (by decide) (fun hc => ?_) (fun hc => ?_)
    · replace hM := it_t hc hM
      exact bC_Tok_value_37  C  _ hM hW _ (lv_sub hl [] rfl)
    · replace hM := it_f hc hM
      refine lv_iload_n (pc := 19) hx hb dC_Tok_value_19 rfl (lv_at hl 0 rfl) ?_
      refine lv_aload_n (pc := 20) hx hb dC_Tok_value_20 rfl (lv_at hl 1 rfl) ?_
      refine x_getC (pc := 21) C hW 0 rfl (ci := 3) rfl i_Tok 4 (by decide) qc_281 rfl rfl dC_Tok_value_21 ?_
      refine x_alenC (pc := 24) C hW 2 rfl dC_Tok_value_24 ?_
      refine lv_icmp_ge (pc := 25) (tgt := 37) hx hb dC_Tok_value_25 (by decide) (fun hc => ?_) (fun hc => ?_)
      · replace hM := it_t hc hM
        exact bC_Tok_value_37  C  _ hM hW _ (lv_sub hl [] rfl)
      · replace hM := it_f hc hM
        refine lv_aload_n (pc := 28) hx hb dC_Tok_value_28 rfl (lv_at hl 1 rfl) ?_
        refine x_getC (pc := 29) C hW 0 rfl (ci := 3) rfl i_Tok 4 (by decide) qc_281 rfl rfl dC_Tok_value_29 ?_
        refine lv_iload_n (pc := 32) hx hb dC_Tok_value_32 rfl (lv_at hl 0 rfl) ?_
        obtain ⟨hg1, hM⟩ := gd_some hM
        refine x_ldIC (pc := 33) C hW 2 rfl hg1 dC_Tok_value_33 ?_
        refine lv_goto (pc := 34) (tgt := 38) hx hb dC_Tok_value_34 (by decide) ?_
        exact bC_Tok_value_38  C  _ _ hM hW _ (lv_sub hl [] rfl)
theorem kC_Tok_value (l : Launch) (D : va_G) (dA : Nat → ClassId) (z : Nat → Nat) (o b : Nat → Nat) (x1 : Int32) (sT : CS) {r : Int32} (hM : C_Tok_value x1 sT = some r) : KQ l D dA z yC_Tok_value cC_Tok_value 3 (some .int) 0 0 (w_Tok dA o b sT) [.ref (o 32), .int x1] (some (.int r)) := x_enterQ (by decide +kernel) (Nat.le_of_ble_eq_true rfl) (fun p e s m args below meth c A C hW ls hl => bC_Tok_value_0 C x1 sT hM hW ls hl)
def C_Tok_length_43 (t0 : Int32) (sT : CS) : Option Int32 :=
  some t0
set_option maxHeartbeats 4000000 in
set_option maxRecDepth 100000 in
theorem bC_Tok_length_43  {r : Int32} (C : CxC R_Tok p s m args meth c cC_Tok_length 1 (some .int) D dA z A) (t0 : Int32) (sT : CS) (hM : C_Tok_length_43  t0 sT = some r) (hW : WdC D A s (w_Tok dA o b sT) s.heap []) (ls : Array Slot) (hl : lv_has ls 1 []) : W p l e (rmC 0 0 0 0) s m args below meth c s.heap [] 0 0 (MQ below (QS (some (.int r))) args s 0 0 (fun _ => False)) (F0 m 43 ls [.int t0]) := by
  have hx := C.1.1
  have hb := C.1.2.1
  have hown := C.1.2.2.2.2.1
  have hT := C.1.2.2.2.2.2.1
  unfold C_Tok_length_43 at hM
  obtain rfl := sm_i hM
  exact x_retS (pc := 43) C.1 rfl dC_Tok_length_43
def C_Tok_length_42  (sT : CS) : Option Int32 :=
  C_Tok_length_43  (0 : Int32) sT
set_option maxHeartbeats 4000000 in
set_option maxRecDepth 100000 in
theorem bC_Tok_length_42  {r : Int32} (C : CxC R_Tok p s m args meth c cC_Tok_length 1 (some .int) D dA z A)  (sT : CS) (hM : C_Tok_length_42   sT = some r) (hW : WdC D A s (w_Tok dA o b sT) s.heap []) (ls : Array Slot) (hl : lv_has ls 1 []) : W p l e (rmC 0 0 0 0) s m args below meth c s.heap [] 0 0 (MQ below (QS (some (.int r))) args s 0 0 (fun _ => False)) (F0 m 42 ls []) := by
  have hx := C.1.1
  have hb := C.1.2.1
  have hown := C.1.2.2.2.2.1
  have hT := C.1.2.2.2.2.2.1
  unfold C_Tok_length_42 at hM
  refine lv_iconst (pc := 42) (v := 0) hx hb dC_Tok_length_42 (by decide) ?_
  exact bC_Tok_length_43  C  _ _ hM hW _ (lv_sub hl [] rfl)
def C_Tok_length  (sT : CS) : Option Int32 :=
  (if (sT.1 2) < 0 then C_Tok_length_42  sT else (if (sT.1 1) ≤ (sT.1 2) then C_Tok_length_42  sT else (if (nI (sT.2.2 2)) ≤ (sT.1 2) then C_Tok_length_42  sT else gd (inB (sT.1 2) (sT.2.2 2)) (C_Tok_length_43  (sT.2.1 2 (sT.1 2).toNatClampNeg) sT))))
set_option maxHeartbeats 4000000 in
set_option maxRecDepth 100000 in
theorem bC_Tok_length_0  {r : Int32} (C : CxC R_Tok p s m args meth c cC_Tok_length 1 (some .int) D dA z A)  (sT : CS) (hM : C_Tok_length   sT = some r) (hW : WdC D A s (w_Tok dA o b sT) s.heap []) (ls : Array Slot) (hl : lv_has ls 1 [(0, .ref (o 32))]) : W p l e (rmC 0 0 0 0) s m args below meth c s.heap [] 0 0 (MQ below (QS (some (.int r))) args s 0 0 (fun _ => False)) (F0 m 0 ls []) := by
  have hx := C.1.1
  have hb := C.1.2.1
  have hown := C.1.2.2.2.2.1
  have hT := C.1.2.2.2.2.2.1
  unfold C_Tok_length at hM
  refine lv_aload_n (pc := 0) hx hb dC_Tok_length_0 rfl (lv_at hl 0 rfl) ?_
  refine x_getC (pc := 1) C hW 0 rfl (ci := 3) rfl i_Tok 2 (by decide) qc_279 rfl rfl dC_Tok_length_1 ?_
  refine lv_if_lt (pc := 4) (tgt := 42) hx hb dC_Tok_length_4 (by decide) (fun hc => ?_) (fun hc => ?_)
  · replace hM := it_t hc hM
    exact bC_Tok_length_42  C  _ hM hW _ (lv_sub hl [] rfl)
  · replace hM := it_f hc hM
    refine lv_aload_n (pc := 7) hx hb dC_Tok_length_7 rfl (lv_at hl 0 rfl) ?_
    refine x_getC (pc := 8) C hW 0 rfl (ci := 3) rfl i_Tok 2 (by decide) qc_279 rfl rfl dC_Tok_length_8 ?_
    refine lv_aload_n (pc := 11) hx hb dC_Tok_length_11 rfl (lv_at hl 0 rfl) ?_
    refine x_getC (pc := 12) C hW 0 rfl (ci := 3) rfl i_Tok 1 (by decide) qc_278 rfl rfl dC_Tok_length_12 ?_
    refine lv_icmp_ge (pc := 15) (tgt := 42) hx hb dC_Tok_length_15 (by decide) (fun hc => ?_) (fun hc => ?_)
    · replace hM := it_t hc hM
      exact bC_Tok_length_42  C  _ hM hW _ (lv_sub hl [] rfl)
    · replace hM := it_f hc hM
      refine lv_aload_n (pc := 18) hx hb dC_Tok_length_18 rfl (lv_at hl 0 rfl) ?_
      refine x_getC (pc := 19) C hW 0 rfl (ci := 3) rfl i_Tok 2 (by decide) qc_279 rfl rfl dC_Tok_length_19 ?_
      refine lv_aload_n (pc := 22) hx hb dC_Tok_length_22 rfl (lv_at hl 0 rfl) ?_
      refine x_getC (pc := 23) C hW 0 rfl (ci := 3) rfl i_Tok 5 (by decide) qc_282 rfl rfl dC_Tok_length_23 ?_
      refine x_alenC (pc := 26) C hW 3 rfl dC_Tok_length_26 ?_
      refine lv_icmp_ge (pc := 27) (tgt := 42) hx hb dC_Tok_length_27 (by decide) (fun hc => ?_) (fun hc => ?_)
      · replace hM := it_t hc hM
        exact bC_Tok_length_42  C  _ hM hW _ (lv_sub hl [] rfl)
      · replace hM := it_f hc hM
        refine lv_aload_n (pc := 30) hx hb dC_Tok_length_30 rfl (lv_at hl 0 rfl) ?_
        refine x_getC (pc := 31) C hW 0 rfl (ci := 3) rfl i_Tok 5 (by decide) qc_282 rfl rfl dC_Tok_length_31 ?_
        refine lv_aload_n (pc := 34) hx hb dC_Tok_length_34 rfl (lv_at hl 0 rfl) ?_
        refine x_getC (pc := 35) C hW 0 rfl (ci := 3) rfl i_Tok 2 (by decide) qc_279 rfl rfl dC_Tok_length_35 ?_
        obtain ⟨hg1, hM⟩ := gd_some hM
        refine x_ldIC (pc := 38) C hW 3 rfl hg1 dC_Tok_length_38 ?_
        refine lv_goto (pc := 39) (tgt := 43) hx hb dC_Tok_length_39 (by decide) ?_
        exact bC_Tok_length_43  C  _ _ hM hW _ (lv_sub hl [] rfl)
theorem kC_Tok_length (l : Launch) (D : va_G) (dA : Nat → ClassId) (z : Nat → Nat) (o b : Nat → Nat)  (sT : CS) {r : Int32} (hM : C_Tok_length  sT = some r) : KQ l D dA z yC_Tok_length cC_Tok_length 1 (some .int) 0 0 (w_Tok dA o b sT) [.ref (o 32)] (some (.int r)) := x_enterQ (by decide +kernel) (Nat.le_of_ble_eq_true rfl) (fun p e s m args below meth c A C hW ls hl => bC_Tok_length_0 C  sT hM hW ls hl)
end
