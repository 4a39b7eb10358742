theorem u_0 {w : Cond} (h : w ∈ tables_1_1) (g : goodWord w = true) : w ∈ lw_gd := lw_gdm (show w ∈ tables_1 from List.mem_append_left _ h) g
theorem u_1 {w : Cond} (h : w ∈ tables_1_2) (g : goodWord w = true) : w ∈ lw_gd := lw_gdm (show w ∈ tables_1 from List.mem_append_right _ (List.mem_append_left _ h)) g
theorem u_2 {w : Cond} (h : w ∈ tables_1_3) (g : goodWord w = true) : w ∈ lw_gd := lw_gdm (show w ∈ tables_1 from List.mem_append_right _ (List.mem_append_right _ (List.mem_append_left _ h))) g
theorem u_3 {w : Cond} (h : w ∈ tables_1_4) (g : goodWord w = true) : w ∈ lw_gd := lw_gdm (show w ∈ tables_1 from List.mem_append_right _ (List.mem_append_right _ (List.mem_append_right _ (List.mem_append_left _ h)))) g
theorem u_4 {w : Cond} (h : w ∈ tables_1_5) (g : goodWord w = true) : w ∈ lw_gd := lw_gdm (show w ∈ tables_1 from List.mem_append_right _ (List.mem_append_right _ (List.mem_append_right _ (List.mem_append_right _ (List.mem_append_left _ h))))) g
theorem u_5 {w : Cond} (h : w ∈ tables_1_6) (g : goodWord w = true) : w ∈ lw_gd := lw_gdm (show w ∈ tables_1 from List.mem_append_right _ (List.mem_append_right _ (List.mem_append_right _ (List.mem_append_right _ (List.mem_append_right _ (List.mem_append_left _ h)))))) g
theorem u_6 {w : Cond} (h : w ∈ tables_1_7) (g : goodWord w = true) : w ∈ lw_gd := lw_gdm (show w ∈ tables_1 from List.mem_append_right _ (List.mem_append_right _ (List.mem_append_right _ (List.mem_append_right _ (List.mem_append_right _ (List.mem_append_right _ (List.mem_append_left _ h))))))) g
theorem u_7 {w : Cond} (h : w ∈ tables_1_8) (g : goodWord w = true) : w ∈ lw_gd := lw_gdm (show w ∈ tables_1 from List.mem_append_right _ (List.mem_append_right _ (List.mem_append_right _ (List.mem_append_right _ (List.mem_append_right _ (List.mem_append_right _ (List.mem_append_right _ (List.mem_append_left _ h)))))))) g
theorem u_8 {w : Cond} (h : w ∈ tables_1_9) (g : goodWord w = true) : w ∈ lw_gd := lw_gdm (show w ∈ tables_1 from List.mem_append_right _ (List.mem_append_right _ (List.mem_append_right _ (List.mem_append_right _ (List.mem_append_right _ (List.mem_append_right _ (List.mem_append_right _ (List.mem_append_right _ (List.mem_append_left _ h))))))))) g
theorem u_9 {w : Cond} (h : w ∈ tables_1_10) (g : goodWord w = true) : w ∈ lw_gd := lw_gdm (show w ∈ tables_1 from List.mem_append_right _ (List.mem_append_right _ (List.mem_append_right _ (List.mem_append_right _ (List.mem_append_right _ (List.mem_append_right _ (List.mem_append_right _ (List.mem_append_right _ (List.mem_append_right _ (List.mem_append_left _ h)))))))))) g
theorem u_10 {w : Cond} (h : w ∈ tables_1_11) (g : goodWord w = true) : w ∈ lw_gd := lw_gdm (show w ∈ tables_1 from List.mem_append_right _ (List.mem_append_right _ (List.mem_append_right _ (List.mem_append_right _ (List.mem_append_right _ (List.mem_append_right _ (List.mem_append_right _ (List.mem_append_right _ (List.mem_append_right _ (List.mem_append_right _ (h))))))))))) g
theorem q_23 : (Jvm.Cond.initialized "LineAssemblerModel") ∈ lw_gd := u_0 (List.mem_of_getElem? (i := 23) (by decide +kernel)) (by decide +kernel)
theorem q_1660 : (Jvm.Cond.fieldLink "LineAssemblerModel" (348 : Nat) "LineAssemblerModel" "thrown" "I") ∈ lw_gd := u_6 (List.mem_of_getElem? (i := 220) (by decide +kernel)) (by decide +kernel)
theorem q_1662 : (Jvm.Cond.fieldLink "LineAssemblerModel" (352 : Nat) "LineAssemblerModel" "typedSize" "I") ∈ lw_gd := u_6 (List.mem_of_getElem? (i := 222) (by decide +kernel)) (by decide +kernel)
theorem q_1663 : (Jvm.Cond.fieldLink "LineAssemblerModel" (327 : Nat) "LineAssemblerModel" "text" "[C") ∈ lw_gd := u_6 (List.mem_of_getElem? (i := 223) (by decide +kernel)) (by decide +kernel)
theorem q_1664 : (Jvm.Cond.fieldLink "LineAssemblerModel" (358 : Nat) "LineAssemblerModel" "size" "I") ∈ lw_gd := u_6 (List.mem_of_getElem? (i := 224) (by decide +kernel)) (by decide +kernel)
theorem q_1667 : (Jvm.Cond.fieldLink "LineAssemblerModel" (330 : Nat) "LineAssemblerModel" "place" "[I") ∈ lw_gd := u_6 (List.mem_of_getElem? (i := 227) (by decide +kernel)) (by decide +kernel)
theorem q_1668 : (Jvm.Cond.fieldLink "LineAssemblerModel" (333 : Nat) "LineAssemblerModel" "offset" "[I") ∈ lw_gd := u_6 (List.mem_of_getElem? (i := 228) (by decide +kernel)) (by decide +kernel)
theorem q_1673 : (Jvm.Cond.fieldLink "LineAssemblerModel" (456 : Nat) "LineAssemblerModel" "textSize" "I") ∈ lw_gd := u_6 (List.mem_of_getElem? (i := 233) (by decide +kernel)) (by decide +kernel)
theorem q_1677 : (Jvm.Cond.fieldLink "LineAssemblerModel" (375 : Nat) "LineAssemblerModel" "token" "I") ∈ lw_gd := u_6 (List.mem_of_getElem? (i := 237) (by decide +kernel)) (by decide +kernel)
theorem q_1678 : (Jvm.Cond.fieldLink "LineAssemblerModel" (378 : Nat) "LineAssemblerModel" "from" "I") ∈ lw_gd := u_6 (List.mem_of_getElem? (i := 238) (by decide +kernel)) (by decide +kernel)
theorem q_1679 : (Jvm.Cond.fieldLink "LineAssemblerModel" (381 : Nat) "LineAssemblerModel" "to" "I") ∈ lw_gd := u_6 (List.mem_of_getElem? (i := 239) (by decide +kernel)) (by decide +kernel)
theorem q_1681 : (Jvm.Cond.fieldLink "LineAssemblerModel" (420 : Nat) "LineAssemblerModel" "fault" "I") ∈ lw_gd := u_7 (List.mem_of_getElem? (i := 1) (by decide +kernel)) (by decide +kernel)
theorem q_1682 : (Jvm.Cond.fieldLink "LineAssemblerModel" (423 : Nat) "LineAssemblerModel" "line" "I") ∈ lw_gd := u_7 (List.mem_of_getElem? (i := 2) (by decide +kernel)) (by decide +kernel)
theorem q_1810 : (Jvm.Cond.methodLink "LineAssemblerModel" (368 : Nat) ({ cls := "LineAssemblerModel", name := "charAt", desc := "(I)I" } : Jvm.MethodName)) ∈ lw_gd := u_7 (List.mem_of_getElem? (i := 130) (by decide +kernel)) (by decide +kernel)
theorem q_1812 : (Jvm.Cond.instanceMethod ({ cls := "LineAssemblerModel", name := "charAt", desc := "(I)I" } : Jvm.MethodName)) ∈ lw_gd := u_7 (List.mem_of_getElem? (i := 132) (by decide +kernel)) (by decide +kernel)
theorem q_1813 : (Jvm.Cond.code ({ cls := "LineAssemblerModel", name := "charAt", desc := "(I)I" } : Jvm.MethodName) prog_14_method_5_code (2 : Nat) (Option.some Jvm.ClassFile.FieldType.int)) ∈ lw_gd := u_7 (List.mem_of_getElem? (i := 133) (by decide +kernel)) (by decide +kernel)
theorem q_1814 : (Jvm.Cond.methodLink "LineAssemblerModel" (361 : Nat) ({ cls := "LineAssemblerModel", name := "isDigit", desc := "(I)Z" } : Jvm.MethodName)) ∈ lw_gd := u_7 (List.mem_of_getElem? (i := 134) (by decide +kernel)) (by decide +kernel)
theorem q_1815 : (Jvm.Cond.static ({ cls := "LineAssemblerModel", name := "isDigit", desc := "(I)Z" } : Jvm.MethodName)) ∈ lw_gd := u_7 (List.mem_of_getElem? (i := 135) (by decide +kernel)) (by decide +kernel)
theorem q_1816 : (Jvm.Cond.code ({ cls := "LineAssemblerModel", name := "isDigit", desc := "(I)Z" } : Jvm.MethodName) prog_14_method_6_code (1 : Nat) (Option.some Jvm.ClassFile.FieldType.boolean)) ∈ lw_gd := u_7 (List.mem_of_getElem? (i := 136) (by decide +kernel)) (by decide +kernel)
theorem q_1821 : (Jvm.Cond.methodLink "LineAssemblerModel" (372 : Nat) ({ cls := "LineAssemblerModel", name := "isPlain", desc := "(I)Z" } : Jvm.MethodName)) ∈ lw_gd := u_7 (List.mem_of_getElem? (i := 141) (by decide +kernel)) (by decide +kernel)
theorem q_1822 : (Jvm.Cond.static ({ cls := "LineAssemblerModel", name := "isPlain", desc := "(I)Z" } : Jvm.MethodName)) ∈ lw_gd := u_7 (List.mem_of_getElem? (i := 142) (by decide +kernel)) (by decide +kernel)
theorem q_1823 : (Jvm.Cond.code ({ cls := "LineAssemblerModel", name := "isPlain", desc := "(I)Z" } : Jvm.MethodName) prog_14_method_8_code (1 : Nat) (Option.some Jvm.ClassFile.FieldType.boolean)) ∈ lw_gd := u_7 (List.mem_of_getElem? (i := 143) (by decide +kernel)) (by decide +kernel)
theorem q_1824 : (Jvm.Cond.methodLink "LineAssemblerModel" (365 : Nat) ({ cls := "LineAssemblerModel", name := "isLetter", desc := "(I)Z" } : Jvm.MethodName)) ∈ lw_gd := u_7 (List.mem_of_getElem? (i := 144) (by decide +kernel)) (by decide +kernel)
theorem q_1825 : (Jvm.Cond.static ({ cls := "LineAssemblerModel", name := "isLetter", desc := "(I)Z" } : Jvm.MethodName)) ∈ lw_gd := u_7 (List.mem_of_getElem? (i := 145) (by decide +kernel)) (by decide +kernel)
theorem q_1826 : (Jvm.Cond.code ({ cls := "LineAssemblerModel", name := "isLetter", desc := "(I)Z" } : Jvm.MethodName) prog_14_method_7_code (1 : Nat) (Option.some Jvm.ClassFile.FieldType.boolean)) ∈ lw_gd := u_7 (List.mem_of_getElem? (i := 146) (by decide +kernel)) (by decide +kernel)
theorem q_1939 : (Jvm.Cond.methodLink "LineAssemblerModel" (459 : Nat) ({ cls := "LineAssemblerModel", name := "base", desc := "()I" } : Jvm.MethodName)) ∈ lw_gd := u_8 (List.mem_of_getElem? (i := 19) (by decide +kernel)) (by decide +kernel)
theorem q_1941 : (Jvm.Cond.instanceMethod ({ cls := "LineAssemblerModel", name := "base", desc := "()I" } : Jvm.MethodName)) ∈ lw_gd := u_8 (List.mem_of_getElem? (i := 21) (by decide +kernel)) (by decide +kernel)
theorem q_1942 : (Jvm.Cond.code ({ cls := "LineAssemblerModel", name := "base", desc := "()I" } : Jvm.MethodName) prog_14_method_25_code (1 : Nat) (Option.some Jvm.ClassFile.FieldType.int)) ∈ lw_gd := u_8 (List.mem_of_getElem? (i := 22) (by decide +kernel)) (by decide +kernel)
theorem q_2102 : (Jvm.Cond.methodLink "LineAssemblerModel" (694 : Nat) ({ cls := "LineAssemblerModel", name := "sectionOf", desc := "(I)I" } : Jvm.MethodName)) ∈ lw_gd := u_8 (List.mem_of_getElem? (i := 182) (by decide +kernel)) (by decide +kernel)
theorem q_2104 : (Jvm.Cond.instanceMethod ({ cls := "LineAssemblerModel", name := "sectionOf", desc := "(I)I" } : Jvm.MethodName)) ∈ lw_gd := u_8 (List.mem_of_getElem? (i := 184) (by decide +kernel)) (by decide +kernel)
theorem q_2105 : (Jvm.Cond.code ({ cls := "LineAssemblerModel", name := "sectionOf", desc := "(I)I" } : Jvm.MethodName) prog_14_method_78_code (2 : Nat) (Option.some Jvm.ClassFile.FieldType.int)) ∈ lw_gd := u_8 (List.mem_of_getElem? (i := 185) (by decide +kernel)) (by decide +kernel)
theorem qs_54 : Cond.selects "LineAssemblerModel" (⟨"LineAssemblerModel", "charAt", "(I)I"⟩ : MethodName) ⟨"LineAssemblerModel", "charAt", "(I)I"⟩ ∈ lw_gd := lw_gds (List.mem_of_getElem? (i := 54) (by decide +kernel)) (by decide +kernel)
theorem qs_80 : Cond.selects "LineAssemblerModel" (⟨"LineAssemblerModel", "base", "()I"⟩ : MethodName) ⟨"LineAssemblerModel", "base", "()I"⟩ ∈ lw_gd := lw_gds (List.mem_of_getElem? (i := 80) (by decide +kernel)) (by decide +kernel)
theorem qs_114 : Cond.selects "LineAssemblerModel" (⟨"LineAssemblerModel", "sectionOf", "(I)I"⟩ : MethodName) ⟨"LineAssemblerModel", "sectionOf", "(I)I"⟩ ∈ lw_gd := lw_gds (List.mem_of_getElem? (i := 114) (by decide +kernel)) (by decide +kernel)
abbrev cM_thrown : ByteArray := prog_14_method_2_code
def yM_thrown : MethodName := ⟨RM, "thrown", "()I"⟩
abbrev rm_thrown : Room := { frames := 0, cells := 0, slots := 0, locals := 0 }
theorem dM_thrown_0 : decode cM_thrown 0 = .ok (.aload_n 0, 1) := by decide +kernel
theorem dM_thrown_1 : decode cM_thrown 1 = .ok (.getfield 348, 3) := by decide +kernel
theorem dM_thrown_4 : decode cM_thrown 4 = .ok (.ireturn, 1) := by decide +kernel
abbrev cM_clear : ByteArray := prog_14_method_4_code
def yM_clear : MethodName := ⟨RM, "clear", "()I"⟩
abbrev rm_clear : Room := { frames := 0, cells := 0, slots := 0, locals := 0 }
theorem dM_clear_0 : decode cM_clear 0 = .ok (.aload_n 0, 1) := by decide +kernel
theorem dM_clear_1 : decode cM_clear 1 = .ok (.iconst 0, 1) := by decide +kernel
theorem dM_clear_2 : decode cM_clear 2 = .ok (.putfield 348, 3) := by decide +kernel
theorem dM_clear_5 : decode cM_clear 5 = .ok (.aload_n 0, 1) := by decide +kernel
theorem dM_clear_6 : decode cM_clear 6 = .ok (.getfield 352, 3) := by decide +kernel
theorem dM_clear_9 : decode cM_clear 9 = .ok (.istore_n 1, 1) := by decide +kernel
theorem dM_clear_10 : decode cM_clear 10 = .ok (.aload_n 0, 1) := by decide +kernel
theorem dM_clear_11 : decode cM_clear 11 = .ok (.iconst 0, 1) := by decide +kernel
theorem dM_clear_12 : decode cM_clear 12 = .ok (.putfield 352, 3) := by decide +kernel
theorem dM_clear_15 : decode cM_clear 15 = .ok (.iload_n 1, 1) := by decide +kernel
theorem dM_clear_16 : decode cM_clear 16 = .ok (.ireturn, 1) := by decide +kernel
abbrev cM_base : ByteArray := prog_14_method_25_code
def yM_base : MethodName := ⟨RM, "base", "()I"⟩
abbrev rm_base : Room := { frames := 0, cells := 0, slots := 0, locals := 0 }
theorem dM_base_0 : decode cM_base 0 = .ok (.aload_n 0, 1) := by decide +kernel
theorem dM_base_1 : decode cM_base 1 = .ok (.getfield 456, 3) := by decide +kernel
theorem dM_base_4 : decode cM_base 4 = .ok (.sipush 1023, 3) := by decide +kernel
theorem dM_base_7 : decode cM_base 7 = .ok (.iadd, 1) := by decide +kernel
theorem dM_base_8 : decode cM_base 8 = .ok (.sipush 1024, 3) := by decide +kernel
theorem dM_base_11 : decode cM_base 11 = .ok (.idiv, 1) := by decide +kernel
theorem dM_base_12 : decode cM_base 12 = .ok (.sipush 1024, 3) := by decide +kernel
theorem dM_base_15 : decode cM_base 15 = .ok (.imul, 1) := by decide +kernel
theorem dM_base_16 : decode cM_base 16 = .ok (.ireturn, 1) := by decide +kernel
abbrev cM_sectionOf : ByteArray := prog_14_method_78_code
def yM_sectionOf : MethodName := ⟨RM, "sectionOf", "(I)I"⟩
abbrev rm_sectionOf : Room := { frames := 0, cells := 0, slots := 0, locals := 0 }
theorem dM_sectionOf_0 : decode cM_sectionOf 0 = .ok (.aload_n 0, 1) := by decide +kernel
theorem dM_sectionOf_1 : decode cM_sectionOf 1 = .ok (.getfield 330, 3) := by decide +kernel
theorem dM_sectionOf_4 : decode cM_sectionOf 4 = .ok (.iload_n 1, 1) := by decide +kernel
theorem dM_sectionOf_5 : decode cM_sectionOf 5 = .ok (.iaload, 1) := by decide +kernel
theorem dM_sectionOf_6 : decode cM_sectionOf 6 = .ok (.bipush 15, 2) := by decide +kernel
theorem dM_sectionOf_8 : decode cM_sectionOf 8 = .ok (.ishr, 1) := by decide +kernel
theorem dM_sectionOf_9 : decode cM_sectionOf 9 = .ok (.iconst 1, 1) := by decide +kernel
theorem dM_sectionOf_10 : decode cM_sectionOf 10 = .ok (.iand, 1) := by decide +kernel
theorem dM_sectionOf_11 : decode cM_sectionOf 11 = .ok (.ireturn, 1) := by decide +kernel
abbrev cM_addressOf : ByteArray := prog_14_method_80_code
def yM_addressOf : MethodName := ⟨RM, "addressOf", "(I)I"⟩
abbrev rm_addressOf : Room := { frames := 1, cells := 0, slots := 0, locals := 21 }
theorem dM_addressOf_0 : decode cM_addressOf 0 = .ok (.aload_n 0, 1) := by decide +kernel
theorem dM_addressOf_1 : decode cM_addressOf 1 = .ok (.getfield 333, 3) := by decide +kernel
theorem dM_addressOf_4 : decode cM_addressOf 4 = .ok (.iload_n 1, 1) := by decide +kernel
theorem dM_addressOf_5 : decode cM_addressOf 5 = .ok (.iaload, 1) := by decide +kernel
theorem dM_addressOf_6 : decode cM_addressOf 6 = .ok (.aload_n 0, 1) := by decide +kernel
theorem dM_addressOf_7 : decode cM_addressOf 7 = .ok (.iload_n 1, 1) := by decide +kernel
theorem dM_addressOf_8 : decode cM_addressOf 8 = .ok (.invokevirtual 694, 3) := by decide +kernel
theorem dM_addressOf_11 : decode cM_addressOf 11 = .ok (.iconst 1, 1) := by decide +kernel
theorem dM_addressOf_12 : decode cM_addressOf 12 = .ok (.if_icmp .ne (10), 3) := by decide +kernel
theorem dM_addressOf_15 : decode cM_addressOf 15 = .ok (.aload_n 0, 1) := by decide +kernel
theorem dM_addressOf_16 : decode cM_addressOf 16 = .ok (.invokevirtual 459, 3) := by decide +kernel
theorem dM_addressOf_19 : decode cM_addressOf 19 = .ok (.goto (4), 3) := by decide +kernel
theorem dM_addressOf_22 : decode cM_addressOf 22 = .ok (.iconst 0, 1) := by decide +kernel
theorem dM_addressOf_23 : decode cM_addressOf 23 = .ok (.iadd, 1) := by decide +kernel
theorem dM_addressOf_24 : decode cM_addressOf 24 = .ok (.ireturn, 1) := by decide +kernel
abbrev cM_blame : ByteArray := prog_14_method_18_code
def yM_blame : MethodName := ⟨RM, "blame", "(I)V"⟩
abbrev rm_blame : Room := { frames := 0, cells := 0, slots := 0, locals := 0 }
theorem dM_blame_0 : decode cM_blame 0 = .ok (.aload_n 0, 1) := by decide +kernel
theorem dM_blame_1 : decode cM_blame 1 = .ok (.getfield 420, 3) := by decide +kernel
theorem dM_blame_4 : decode cM_blame 4 = .ok (.ifCond .ne (16), 3) := by decide +kernel
theorem dM_blame_7 : decode cM_blame 7 = .ok (.aload_n 0, 1) := by decide +kernel
theorem dM_blame_8 : decode cM_blame 8 = .ok (.iload_n 1, 1) := by decide +kernel
theorem dM_blame_9 : decode cM_blame 9 = .ok (.bipush 16, 2) := by decide +kernel
theorem dM_blame_11 : decode cM_blame 11 = .ok (.aload_n 0, 1) := by decide +kernel
theorem dM_blame_12 : decode cM_blame 12 = .ok (.getfield 423, 3) := by decide +kernel
theorem dM_blame_15 : decode cM_blame 15 = .ok (.imul, 1) := by decide +kernel
theorem dM_blame_16 : decode cM_blame 16 = .ok (.iadd, 1) := by decide +kernel
theorem dM_blame_17 : decode cM_blame 17 = .ok (.putfield 420, 3) := by decide +kernel
theorem dM_blame_20 : decode cM_blame 20 = .ok (.return_, 1) := by decide +kernel
abbrev cM_bad : ByteArray := prog_14_method_10_code
def yM_bad : MethodName := ⟨RM, "bad", "()V"⟩
abbrev rm_bad : Room := { frames := 0, cells := 0, slots := 0, locals := 0 }
theorem dM_bad_0 : decode cM_bad 0 = .ok (.aload_n 0, 1) := by decide +kernel
theorem dM_bad_1 : decode cM_bad 1 = .ok (.iconst 5, 1) := by decide +kernel
theorem dM_bad_2 : decode cM_bad 2 = .ok (.putfield 375, 3) := by decide +kernel
theorem dM_bad_5 : decode cM_bad 5 = .ok (.aload_n 0, 1) := by decide +kernel
theorem dM_bad_6 : decode cM_bad 6 = .ok (.aload_n 0, 1) := by decide +kernel
theorem dM_bad_7 : decode cM_bad 7 = .ok (.getfield 378, 3) := by decide +kernel
theorem dM_bad_10 : decode cM_bad 10 = .ok (.putfield 381, 3) := by decide +kernel
theorem dM_bad_13 : decode cM_bad 13 = .ok (.return_, 1) := by decide +kernel
abbrev cM_charAt : ByteArray := prog_14_method_5_code
def yM_charAt : MethodName := ⟨RM, "charAt", "(I)I"⟩
abbrev rm_charAt : Room := { frames := 0, cells := 0, slots := 0, locals := 0 }
theorem dM_charAt_0 : decode cM_charAt 0 = .ok (.iload_n 1, 1) := by decide +kernel
theorem dM_charAt_1 : decode cM_charAt 1 = .ok (.aload_n 0, 1) := by decide +kernel
theorem dM_charAt_2 : decode cM_charAt 2 = .ok (.getfield 358, 3) := by decide +kernel
theorem dM_charAt_5 : decode cM_charAt 5 = .ok (.if_icmp .ge (12), 3) := by decide +kernel
theorem dM_charAt_8 : decode cM_charAt 8 = .ok (.aload_n 0, 1) := by decide +kernel
theorem dM_charAt_9 : decode cM_charAt 9 = .ok (.getfield 327, 3) := by decide +kernel
theorem dM_charAt_12 : decode cM_charAt 12 = .ok (.iload_n 1, 1) := by decide +kernel
theorem dM_charAt_13 : decode cM_charAt 13 = .ok (.caload, 1) := by decide +kernel
theorem dM_charAt_14 : decode cM_charAt 14 = .ok (.goto (5), 3) := by decide +kernel
theorem dM_charAt_17 : decode cM_charAt 17 = .ok (.bipush 10, 2) := by decide +kernel
theorem dM_charAt_19 : decode cM_charAt 19 = .ok (.ireturn, 1) := by decide +kernel
abbrev cM_isDigit : ByteArray := prog_14_method_6_code
def yM_isDigit : MethodName := ⟨RM, "isDigit", "(I)Z"⟩
abbrev rm_isDigit : Room := { frames := 0, cells := 0, slots := 0, locals := 0 }
theorem dM_isDigit_0 : decode cM_isDigit 0 = .ok (.iload_n 0, 1) := by decide +kernel
theorem dM_isDigit_1 : decode cM_isDigit 1 = .ok (.bipush 48, 2) := by decide +kernel
theorem dM_isDigit_3 : decode cM_isDigit 3 = .ok (.if_icmp .lt (13), 3) := by decide +kernel
theorem dM_isDigit_6 : decode cM_isDigit 6 = .ok (.iload_n 0, 1) := by decide +kernel
theorem dM_isDigit_7 : decode cM_isDigit 7 = .ok (.bipush 57, 2) := by decide +kernel
theorem dM_isDigit_9 : decode cM_isDigit 9 = .ok (.if_icmp .gt (7), 3) := by decide +kernel
theorem dM_isDigit_12 : decode cM_isDigit 12 = .ok (.iconst 1, 1) := by decide +kernel
theorem dM_isDigit_13 : decode cM_isDigit 13 = .ok (.goto (4), 3) := by decide +kernel
theorem dM_isDigit_16 : decode cM_isDigit 16 = .ok (.iconst 0, 1) := by decide +kernel
theorem dM_isDigit_17 : decode cM_isDigit 17 = .ok (.ireturn, 1) := by decide +kernel
abbrev cM_isLetter : ByteArray := prog_14_method_7_code
def yM_isLetter : MethodName := ⟨RM, "isLetter", "(I)Z"⟩
abbrev rm_isLetter : Room := { frames := 0, cells := 0, slots := 0, locals := 0 }
theorem dM_isLetter_0 : decode cM_isLetter 0 = .ok (.iload_n 0, 1) := by decide +kernel
theorem dM_isLetter_1 : decode cM_isLetter 1 = .ok (.bipush 97, 2) := by decide +kernel
theorem dM_isLetter_3 : decode cM_isLetter 3 = .ok (.if_icmp .lt (9), 3) := by decide +kernel
theorem dM_isLetter_6 : decode cM_isLetter 6 = .ok (.iload_n 0, 1) := by decide +kernel
theorem dM_isLetter_7 : decode cM_isLetter 7 = .ok (.bipush 122, 2) := by decide +kernel
theorem dM_isLetter_9 : decode cM_isLetter 9 = .ok (.if_icmp .le (15), 3) := by decide +kernel
theorem dM_isLetter_12 : decode cM_isLetter 12 = .ok (.iload_n 0, 1) := by decide +kernel
theorem dM_isLetter_13 : decode cM_isLetter 13 = .ok (.bipush 65, 2) := by decide +kernel
theorem dM_isLetter_15 : decode cM_isLetter 15 = .ok (.if_icmp .lt (13), 3) := by decide +kernel
theorem dM_isLetter_18 : decode cM_isLetter 18 = .ok (.iload_n 0, 1) := by decide +kernel
theorem dM_isLetter_19 : decode cM_isLetter 19 = .ok (.bipush 90, 2) := by decide +kernel
theorem dM_isLetter_21 : decode cM_isLetter 21 = .ok (.if_icmp .gt (7), 3) := by decide +kernel
theorem dM_isLetter_24 : decode cM_isLetter 24 = .ok (.iconst 1, 1) := by decide +kernel
theorem dM_isLetter_25 : decode cM_isLetter 25 = .ok (.goto (4), 3) := by decide +kernel
theorem dM_isLetter_28 : decode cM_isLetter 28 = .ok (.iconst 0, 1) := by decide +kernel
theorem dM_isLetter_29 : decode cM_isLetter 29 = .ok (.ireturn, 1) := by decide +kernel
abbrev cM_isPlain : ByteArray := prog_14_method_8_code
def yM_isPlain : MethodName := ⟨RM, "isPlain", "(I)Z"⟩
abbrev rm_isPlain : Room := { frames := 1, cells := 0, slots := 0, locals := 20 }
theorem dM_isPlain_0 : decode cM_isPlain 0 = .ok (.iload_n 0, 1) := by decide +kernel
theorem dM_isPlain_1 : decode cM_isPlain 1 = .ok (.invokestatic 361, 3) := by decide +kernel
theorem dM_isPlain_4 : decode cM_isPlain 4 = .ok (.ifCond .ne (28), 3) := by decide +kernel
theorem dM_isPlain_7 : decode cM_isPlain 7 = .ok (.iload_n 0, 1) := by decide +kernel
theorem dM_isPlain_8 : decode cM_isPlain 8 = .ok (.invokestatic 365, 3) := by decide +kernel
theorem dM_isPlain_11 : decode cM_isPlain 11 = .ok (.ifCond .ne (21), 3) := by decide +kernel
theorem dM_isPlain_14 : decode cM_isPlain 14 = .ok (.iload_n 0, 1) := by decide +kernel
theorem dM_isPlain_15 : decode cM_isPlain 15 = .ok (.bipush 95, 2) := by decide +kernel
theorem dM_isPlain_17 : decode cM_isPlain 17 = .ok (.if_icmp .eq (15), 3) := by decide +kernel
theorem dM_isPlain_20 : decode cM_isPlain 20 = .ok (.iload_n 0, 1) := by decide +kernel
theorem dM_isPlain_21 : decode cM_isPlain 21 = .ok (.bipush 46, 2) := by decide +kernel
theorem dM_isPlain_23 : decode cM_isPlain 23 = .ok (.if_icmp .eq (9), 3) := by decide +kernel
theorem dM_isPlain_26 : decode cM_isPlain 26 = .ok (.iload_n 0, 1) := by decide +kernel
theorem dM_isPlain_27 : decode cM_isPlain 27 = .ok (.bipush 36, 2) := by decide +kernel
theorem dM_isPlain_29 : decode cM_isPlain 29 = .ok (.if_icmp .ne (7), 3) := by decide +kernel
theorem dM_isPlain_32 : decode cM_isPlain 32 = .ok (.iconst 1, 1) := by decide +kernel
theorem dM_isPlain_33 : decode cM_isPlain 33 = .ok (.goto (4), 3) := by decide +kernel
theorem dM_isPlain_36 : decode cM_isPlain 36 = .ok (.iconst 0, 1) := by decide +kernel
theorem dM_isPlain_37 : decode cM_isPlain 37 = .ok (.ireturn, 1) := by decide +kernel
abbrev cM_plain : ByteArray := prog_14_method_9_code
def yM_plain : MethodName := ⟨RM, "plain", "(I)I"⟩
abbrev rm_plain : Room := { frames := 2, cells := 0, slots := 0, locals := 40 }
theorem dM_plain_0 : decode cM_plain 0 = .ok (.iload_n 1, 1) := by decide +kernel
theorem dM_plain_1 : decode cM_plain 1 = .ok (.istore_n 2, 1) := by decide +kernel
theorem dM_plain_2 : decode cM_plain 2 = .ok (.aload_n 0, 1) := by decide +kernel
theorem dM_plain_3 : decode cM_plain 3 = .ok (.iload_n 2, 1) := by decide +kernel
theorem dM_plain_4 : decode cM_plain 4 = .ok (.invokevirtual 368, 3) := by decide +kernel
theorem dM_plain_7 : decode cM_plain 7 = .ok (.invokestatic 372, 3) := by decide +kernel
theorem dM_plain_10 : decode cM_plain 10 = .ok (.ifCond .eq (9), 3) := by decide +kernel
theorem dM_plain_13 : decode cM_plain 13 = .ok (.iinc 2 (1), 3) := by decide +kernel
theorem dM_plain_16 : decode cM_plain 16 = .ok (.goto (-14), 3) := by decide +kernel
theorem dM_plain_19 : decode cM_plain 19 = .ok (.iload_n 2, 1) := by decide +kernel
theorem dM_plain_20 : decode cM_plain 20 = .ok (.ireturn, 1) := by decide +kernel
theorem gM_base_459 : GoodIn lw_gd (wsV RM 459 RM yM_base (.code yM_base cM_base 1 (some .int) :: lw_gd)) := lw_GV q_1942 q_1939 q_1941 qs_80 q_23
theorem gM_charAt_368 : GoodIn lw_gd (wsV RM 368 RM yM_charAt (.code yM_charAt cM_charAt 2 (some .int) :: lw_gd)) := lw_GV q_1813 q_1810 q_1812 qs_54 q_23
theorem gM_isDigit_361 : GoodIn lw_gd (wsS RM 361 yM_isDigit (.code yM_isDigit cM_isDigit 1 (some .boolean) :: lw_gd)) := lw_GS q_1816 q_1814 q_1815 q_23
theorem gM_isLetter_365 : GoodIn lw_gd (wsS RM 365 yM_isLetter (.code yM_isLetter cM_isLetter 1 (some .boolean) :: lw_gd)) := lw_GS q_1826 q_1824 q_1825 q_23
theorem gM_isPlain_372 : GoodIn lw_gd (wsS RM 372 yM_isPlain (.code yM_isPlain cM_isPlain 1 (some .boolean) :: lw_gd)) := lw_GS q_1823 q_1821 q_1822 q_23
theorem gM_sectionOf_694 : GoodIn lw_gd (wsV RM 694 RM yM_sectionOf (.code yM_sectionOf cM_sectionOf 2 (some .int) :: lw_gd)) := lw_GV q_2105 q_2102 q_2104 qs_114 q_23
section
variable {p : Program} {l : Launch} {e : Env} {s : State} {m : MethodId} {args : Array Value} {below : List Frame} {meth : Method} {c : Code} {D : va_G} {dA : Nat → ClassId} {h : Nat → Nat} {A : Nat → Prop}
def M_thrown  (σ : MS) : Option Int32 :=
  some (σ.1 0)
set_option maxHeartbeats 4000000 in
set_option maxRecDepth 100000 in
theorem bM_thrown_0  {r : Int32} (C : CxM p s m args meth c cM_thrown 1 (some .int) D dA A)  (σ : MS) (hM : M_thrown   σ = some r) (hW : WdM D dA h A s σ s.heap []) (ls : Array Slot) (hl : lv_has ls 1 [(0, .ref (h 0))]) : W p l e rm_thrown s m args below meth c s.heap [] 0 0 (MQ below (QS (some (.int r))) args s 0 0 (fun _ => False)) (F0 m 0 ls []) := by
  have hx := C.1.1
  have hb := C.1.2.1
  have hown := C.1.2.2.2.2.1
  have hT := C.1.2.2.2.2.2.1
  unfold M_thrown at hM
  refine lv_aload_n (pc := 0) hx hb dM_thrown_0 rfl (lv_at hl 0 rfl) ?_
  refine gM (pc := 1) C hW 3 (by decide) q_1660 rfl rfl dM_thrown_1 ?_
  obtain rfl := sm_i hM
  exact x_retS (pc := 4) C.1 rfl dM_thrown_4
theorem kM_thrown (l : Launch) (D : va_G) (dA : Nat → ClassId) (h : Nat → Nat)  (σ : MS) {r : Int32} (hM : M_thrown  σ = some r) : KR l D dA yM_thrown cM_thrown 1 (some .int) rm_thrown h σ [] (some (.int r)) := x_enterR rfl (Nat.le_of_ble_eq_true rfl) (fun p e s m args below meth c A C hW ls hl => bM_thrown_0 C  σ hM hW ls hl)
def M_clear  (σ : MS) : Option (Int32 × MS) :=
  bnd (sF σ 0 (0 : Int32)) (fun σ1 => bnd (sF σ1 1 (0 : Int32)) (fun σ2 => some (σ1.1 1, σ2)))
set_option maxHeartbeats 4000000 in
set_option maxRecDepth 100000 in
theorem bM_clear_0  {r : Int32} {σ' : MS} (C : CxM p s m args meth c cM_clear 2 (some .int) D dA A)  (σ : MS) (hM : M_clear   σ = some (r, σ')) (H : Heap) (locs : List Loc) (hW : WdM D dA h A s σ H locs) (ls : Array Slot) (hl : lv_has ls 2 [(0, .ref (h 0))]) : W p l e rm_clear s m args below meth c H locs 0 0 (MQ below (QM D dA h A σ' (some (.int r))) args s 0 0 A) (F0 m 0 ls []) := by
  have hx := C.1.1
  have hb := C.1.2.1
  have hown := C.1.2.2.2.2.1
  have hT := C.1.2.2.2.2.2.1
  unfold M_clear at hM
  refine lv_aload_n (pc := 0) hx hb dM_clear_0 rfl (lv_at hl 0 rfl) ?_
  refine lv_iconst (pc := 1) (v := 0) hx hb dM_clear_1 (by decide) ?_
  refine pM (pc := 2) (ty := .int) C hW 3 0 (by decide) q_1660 rfl rfl (by decide +kernel) rfl rfl (st_thrown dA h _ _) dM_clear_2 (fun H locs hW => ?_)
  obtain ⟨σ1, eσ1, hM⟩ := bnd_some hM
  rw [← eσ1] at hW
  refine lv_aload_n (pc := 5) hx hb dM_clear_5 rfl (lv_at hl 0 rfl) ?_
  refine gM (pc := 6) C hW 5 (by decide) q_1662 rfl rfl dM_clear_6 ?_
  refine lv_istore_n (pc := 9) (lv' := [(1, .int (σ1.1 1)), (0, .ref (h 0))]) hx hb dM_clear_9 rfl hl (by decide) rfl (fun ls hl => ?_)
  refine lv_aload_n (pc := 10) hx hb dM_clear_10 rfl (lv_at hl 1 rfl) ?_
  refine lv_iconst (pc := 11) (v := 0) hx hb dM_clear_11 (by decide) ?_
  refine pM (pc := 12) (ty := .int) C hW 5 1 (by decide) q_1662 rfl rfl (by decide +kernel) rfl rfl (st_typedSize dA h _ _) dM_clear_12 (fun H locs hW => ?_)
  obtain ⟨σ2, eσ2, hM⟩ := bnd_some hM
  rw [← eσ2] at hW
  refine lv_iload_n (pc := 15) hx hb dM_clear_15 rfl (lv_at hl 0 rfl) ?_
  obtain ⟨rfl, rfl⟩ := sm_p hM
  exact x_retMi (pc := 16) C rfl hW dM_clear_16
theorem kM_clear (l : Launch) (D : va_G) (dA : Nat → ClassId) (h : Nat → Nat)  (σ : MS) {r : Int32} {σ' : MS} (hM : M_clear  σ = some (r, σ')) : KM l D dA yM_clear cM_clear 2 (some .int) rm_clear h σ [] (some (.int r)) σ' := x_enterM rfl (Nat.le_of_ble_eq_true rfl) (fun p e s m args below meth c A C hW ls hl => bM_clear_0 C  σ hM s.heap [] hW ls hl)
def M_base  (σ : MS) : Option Int32 :=
  gd (nz (1024 : Int32)) (some ((((σ.1 6) + (1023 : Int32)) / (1024 : Int32)) * (1024 : Int32)))
set_option maxHeartbeats 4000000 in
set_option maxRecDepth 100000 in
theorem bM_base_0  {r : Int32} (C : CxM p s m args meth c cM_base 1 (some .int) D dA A)  (σ : MS) (hM : M_base   σ = some r) (hW : WdM D dA h A s σ s.heap []) (ls : Array Slot) (hl : lv_has ls 1 [(0, .ref (h 0))]) : W p l e rm_base s m args below meth c s.heap [] 0 0 (MQ below (QS (some (.int r))) args s 0 0 (fun _ => False)) (F0 m 0 ls []) := by
  have hx := C.1.1
  have hb := C.1.2.1
  have hown := C.1.2.2.2.2.1
  have hT := C.1.2.2.2.2.2.1
  unfold M_base at hM
  refine lv_aload_n (pc := 0) hx hb dM_base_0 rfl (lv_at hl 0 rfl) ?_
  refine gM (pc := 1) C hW 16 (by decide) q_1673 rfl rfl dM_base_1 ?_
  refine lv_sipush (pc := 4) (v := 1023) hx hb dM_base_4 (by decide) ?_
  refine lv_iadd (pc := 7) hx hb dM_base_7 ?_
  refine lv_sipush (pc := 8) (v := 1024) hx hb dM_base_8 (by decide) ?_
  obtain ⟨hg1, hM⟩ := gd_some hM
  refine lv_idiv (pc := 11) hx hb dM_base_11 (nz_ne hg1) ?_
  refine lv_sipush (pc := 12) (v := 1024) hx hb dM_base_12 (by decide) ?_
  refine lv_imul (pc := 15) hx hb dM_base_15 ?_
  obtain rfl := sm_i hM
  exact x_retS (pc := 16) C.1 rfl dM_base_16
theorem kM_base (l : Launch) (D : va_G) (dA : Nat → ClassId) (h : Nat → Nat)  (σ : MS) {r : Int32} (hM : M_base  σ = some r) : KR l D dA yM_base cM_base 1 (some .int) rm_base h σ [] (some (.int r)) := x_enterR rfl (Nat.le_of_ble_eq_true rfl) (fun p e s m args below meth c A C hW ls hl => bM_base_0 C  σ hM hW ls hl)
def M_sectionOf (x1 : Int32) (σ : MS) : Option Int32 :=
  gd (inB x1 1030) (some (((σ.2 2 x1.toNatClampNeg) >>> ((15 : Int32) &&& 31)) &&& (1 : Int32)))
set_option maxHeartbeats 4000000 in
set_option maxRecDepth 100000 in
theorem bM_sectionOf_0  {r : Int32} (C : CxM p s m args meth c cM_sectionOf 2 (some .int) D dA A) (x1 : Int32) (σ : MS) (hM : M_sectionOf  x1 σ = some r) (hW : WdM D dA h A s σ s.heap []) (ls : Array Slot) (hl : lv_has ls 2 [(0, .ref (h 0)), (1, .int x1)]) : W p l e rm_sectionOf s m args below meth c s.heap [] 0 0 (MQ below (QS (some (.int r))) args s 0 0 (fun _ => False)) (F0 m 0 ls []) := by
  have hx := C.1.1
  have hb := C.1.2.1
  have hown := C.1.2.2.2.2.1
  have hT := C.1.2.2.2.2.2.1
  unfold M_sectionOf at hM
  refine lv_aload_n (pc := 0) hx hb dM_sectionOf_0 rfl (lv_at hl 0 rfl) ?_
  refine gM (pc := 1) C hW 10 (by decide) q_1667 rfl rfl dM_sectionOf_1 ?_
  refine lv_iload_n (pc := 4) hx hb dM_sectionOf_4 rfl (lv_at hl 1 rfl) ?_
  obtain ⟨hg1, hM⟩ := gd_some hM
  refine x_ldI (pc := 5) C hW 6 rfl hg1 dM_sectionOf_5 ?_
  refine lv_bipush (pc := 6) (v := 15) hx hb dM_sectionOf_6 (by decide) ?_
  refine lv_ishr (pc := 8) hx hb dM_sectionOf_8 ?_
  refine lv_iconst (pc := 9) (v := 1) hx hb dM_sectionOf_9 (by decide) ?_
  refine lv_iand (pc := 10) hx hb dM_sectionOf_10 ?_
  obtain rfl := sm_i hM
  exact x_retS (pc := 11) C.1 rfl dM_sectionOf_11
theorem kM_sectionOf (l : Launch) (D : va_G) (dA : Nat → ClassId) (h : Nat → Nat) (x1 : Int32) (σ : MS) {r : Int32} (hM : M_sectionOf x1 σ = some r) : KR l D dA yM_sectionOf cM_sectionOf 2 (some .int) rm_sectionOf h σ [.int x1] (some (.int r)) := x_enterR rfl (Nat.le_of_ble_eq_true rfl) (fun p e s m args below meth c A C hW ls hl => bM_sectionOf_0 C x1 σ hM hW ls hl)
def M_addressOf_23 (t0 : Int32) (t1 : Int32) (σ : MS) : Option Int32 :=
  some (t0 + t1)
set_option maxHeartbeats 4000000 in
set_option maxRecDepth 100000 in
theorem bM_addressOf_23  {r : Int32} (C : CxM p s m args meth c cM_addressOf 2 (some .int) D dA A) (t0 : Int32) (t1 : Int32) (σ : MS) (hM : M_addressOf_23  t0 t1 σ = some r) (hW : WdM D dA h A s σ s.heap []) (ls : Array Slot) (hl : lv_has ls 2 []) : W p l e rm_addressOf s m args below meth c s.heap [] 0 0 (MQ below (QS (some (.int r))) args s 0 0 (fun _ => False)) (F0 m 23 ls [.int t1, .int t0]) := by
  have hx := C.1.1
  have hb := C.1.2.1
  have hown := C.1.2.2.2.2.1
  have hT := C.1.2.2.2.2.2.1
  unfold M_addressOf_23 at hM
  refine lv_iadd (pc := 23) hx hb dM_addressOf_23 ?_
  obtain rfl := sm_i hM
  exact x_retS (pc := 24) C.1 rfl dM_addressOf_24
def M_addressOf (x1 : Int32) (σ : MS) : Option Int32 :=
  gd (inB x1 1030) (cr (M_sectionOf  x1 σ) (fun r2 => (if r2 = (1 : Int32) then cr (M_base  σ) (fun r3 => M_addressOf_23  (σ.2 3 x1.toNatClampNeg) r3 σ) else M_addressOf_23  (σ.2 3 x1.toNatClampNeg) (0 : Int32) σ)))
set_option maxHeartbeats 4000000 in
set_option maxRecDepth 100000 in
theorem bM_addressOf_0  {r : Int32} (C : CxM p s m args meth c cM_addressOf 2 (some .int) D dA A) (x1 : Int32) (σ : MS) (hM : M_addressOf  x1 σ = some r) (hW : WdM D dA h A s σ s.heap []) (ls : Array Slot) (hl : lv_has ls 2 [(0, .ref (h 0)), (1, .int x1)]) : W p l e rm_addressOf s m args below meth c s.heap [] 0 0 (MQ below (QS (some (.int r))) args s 0 0 (fun _ => False)) (F0 m 0 ls []) := by
  have hx := C.1.1
  have hb := C.1.2.1
  have hown := C.1.2.2.2.2.1
  have hT := C.1.2.2.2.2.2.1
  unfold M_addressOf at hM
  refine lv_aload_n (pc := 0) hx hb dM_addressOf_0 rfl (lv_at hl 0 rfl) ?_
  refine gM (pc := 1) C hW 11 (by decide) q_1668 rfl rfl dM_addressOf_1 ?_
  refine lv_iload_n (pc := 4) hx hb dM_addressOf_4 rfl (lv_at hl 1 rfl) ?_
  obtain ⟨hg1, hM⟩ := gd_some hM
  refine x_ldI (pc := 5) C hW 7 rfl hg1 dM_addressOf_5 ?_
  refine lv_aload_n (pc := 6) hx hb dM_addressOf_6 rfl (lv_at hl 0 rfl) ?_
  refine lv_iload_n (pc := 7) hx hb dM_addressOf_7 rfl (lv_at hl 1 rfl) ?_
  obtain ⟨r2, hr2, hM⟩ := cr_some hM
  refine x_callRi (pc := 8) C hW (kM_sectionOf l D dA h  x1 _ hr2) gM_sectionOf_694 ⟨rfl, by decide, by decide, by decide +kernel⟩ ⟨rfl, rfl⟩ ⟨by decide, by decide⟩ ⟨by decide, by decide⟩ (As := [.int x1]) (n := 1) rfl hl.1 rfl (Nat.le_of_ble_eq_true rfl) dM_addressOf_8 ?_
  refine lv_iconst (pc := 11) (v := 1) hx hb dM_addressOf_11 (by decide) ?_
  refine lv_icmp_ne (pc := 12) (tgt := 22) hx hb dM_addressOf_12 (by decide) (fun hc => ?_) (fun hc => ?_)
  · replace hM := it_f hc hM
    refine lv_iconst (pc := 22) (v := 0) hx hb dM_addressOf_22 (by decide) ?_
    exact bM_addressOf_23  C  _ _ _ hM hW _ (lv_sub hl [] rfl)
  · replace hM := it_t hc hM
    refine lv_aload_n (pc := 15) hx hb dM_addressOf_15 rfl (lv_at hl 0 rfl) ?_
    obtain ⟨r3, hr3, hM⟩ := cr_some hM
    refine x_callRi (pc := 16) C hW (kM_base l D dA h  _ hr3) gM_base_459 ⟨rfl, by decide, by decide, by decide +kernel⟩ ⟨rfl, rfl⟩ ⟨by decide, by decide⟩ ⟨by decide, by decide⟩ (As := []) (n := 0) rfl hl.1 rfl (Nat.le_of_ble_eq_true rfl) dM_addressOf_16 ?_
    refine lv_goto (pc := 19) (tgt := 23) hx hb dM_addressOf_19 (by decide) ?_
    exact bM_addressOf_23  C  _ _ _ hM hW _ (lv_sub hl [] rfl)
theorem kM_addressOf (l : Launch) (D : va_G) (dA : Nat → ClassId) (h : Nat → Nat) (x1 : Int32) (σ : MS) {r : Int32} (hM : M_addressOf x1 σ = some r) : KR l D dA yM_addressOf cM_addressOf 2 (some .int) rm_addressOf h σ [.int x1] (some (.int r)) := x_enterR rfl (Nat.le_of_ble_eq_true rfl) (fun p e s m args below meth c A C hW ls hl => bM_addressOf_0 C x1 σ hM hW ls hl)
def M_blame_20  (σ : MS) : Option (Int32 × MS) :=
  some ((0 : Int32), σ)
set_option maxHeartbeats 4000000 in
set_option maxRecDepth 100000 in
theorem bM_blame_20  {r : Int32} {σ' : MS} (C : CxM p s m args meth c cM_blame 2 none D dA A)  (σ : MS) (hM : M_blame_20   σ = some (r, σ')) (H : Heap) (locs : List Loc) (hW : WdM D dA h A s σ H locs) (ls : Array Slot) (hl : lv_has ls 2 []) : W p l e rm_blame s m args below meth c H locs 0 0 (MQ below (QM D dA h A σ' none) args s 0 0 A) (F0 m 20 ls []) := by
  have hx := C.1.1
  have hb := C.1.2.1
  have hown := C.1.2.2.2.2.1
  have hT := C.1.2.2.2.2.2.1
  unfold M_blame_20 at hM
  obtain ⟨rfl, rfl⟩ := sm_p hM
  exact x_retMv (pc := 20) C rfl hW dM_blame_20
def M_blame (x1 : Int32) (σ : MS) : Option (Int32 × MS) :=
  (if (σ.1 14) = 0 then bnd (sF σ 14 (x1 + ((16 : Int32) * (σ.1 15)))) (fun σ1 => M_blame_20  σ1) else M_blame_20  σ)
set_option maxHeartbeats 4000000 in
set_option maxRecDepth 100000 in
theorem bM_blame_0  {r : Int32} {σ' : MS} (C : CxM p s m args meth c cM_blame 2 none D dA A) (x1 : Int32) (σ : MS) (hM : M_blame  x1 σ = some (r, σ')) (H : Heap) (locs : List Loc) (hW : WdM D dA h A s σ H locs) (ls : Array Slot) (hl : lv_has ls 2 [(0, .ref (h 0)), (1, .int x1)]) : W p l e rm_blame s m args below meth c H locs 0 0 (MQ below (QM D dA h A σ' none) args s 0 0 A) (F0 m 0 ls []) := by
  have hx := C.1.1
  have hb := C.1.2.1
  have hown := C.1.2.2.2.2.1
  have hT := C.1.2.2.2.2.2.1
  unfold M_blame at hM
  refine lv_aload_n (pc := 0) hx hb dM_blame_0 rfl (lv_at hl 0 rfl) ?_
  refine gM (pc := 1) C hW 24 (by decide) q_1681 rfl rfl dM_blame_1 ?_
  refine lv_if_ne (pc := 4) (tgt := 20) hx hb dM_blame_4 (by decide) (fun hc => ?_) (fun hc => ?_)
  · replace hM := it_f hc hM
    exact bM_blame_20  C   _ hM _ _ hW _ (lv_sub hl [] rfl)
  · replace hM := it_t hc hM
    refine lv_aload_n (pc := 7) hx hb dM_blame_7 rfl (lv_at hl 0 rfl) ?_
    refine lv_iload_n (pc := 8) hx hb dM_blame_8 rfl (lv_at hl 1 rfl) ?_
    refine lv_bipush (pc := 9) (v := 16) hx hb dM_blame_9 (by decide) ?_
    refine lv_aload_n (pc := 11) hx hb dM_blame_11 rfl (lv_at hl 0 rfl) ?_
    refine gM (pc := 12) C hW 25 (by decide) q_1682 rfl rfl dM_blame_12 ?_
    refine lv_imul (pc := 15) hx hb dM_blame_15 ?_
    refine lv_iadd (pc := 16) hx hb dM_blame_16 ?_
    refine pM (pc := 17) (ty := .int) C hW 24 14 (by decide) q_1681 rfl rfl (by decide +kernel) rfl rfl (st_fault dA h _ _) dM_blame_17 (fun H locs hW => ?_)
    obtain ⟨σ1, eσ1, hM⟩ := bnd_some hM
    rw [← eσ1] at hW
    exact bM_blame_20  C   _ hM _ _ hW _ (lv_sub hl [] rfl)
theorem kM_blame (l : Launch) (D : va_G) (dA : Nat → ClassId) (h : Nat → Nat) (x1 : Int32) (σ : MS) {r : Int32} {σ' : MS} (hM : M_blame x1 σ = some (r, σ')) : KM l D dA yM_blame cM_blame 2 none rm_blame h σ [.int x1] none σ' := x_enterM rfl (Nat.le_of_ble_eq_true rfl) (fun p e s m args below meth c A C hW ls hl => bM_blame_0 C x1 σ hM s.heap [] hW ls hl)
def M_bad  (σ : MS) : Option (Int32 × MS) :=
  bnd (sF σ 10 (5 : Int32)) (fun σ1 => bnd (sF σ1 12 (σ1.1 11)) (fun σ2 => some ((0 : Int32), σ2)))
set_option maxHeartbeats 4000000 in
set_option maxRecDepth 100000 in
theorem bM_bad_0  {r : Int32} {σ' : MS} (C : CxM p s m args meth c cM_bad 1 none D dA A)  (σ : MS) (hM : M_bad   σ = some (r, σ')) (H : Heap) (locs : List Loc) (hW : WdM D dA h A s σ H locs) (ls : Array Slot) (hl : lv_has ls 1 [(0, .ref (h 0))]) : W p l e rm_bad s m args below meth c H locs 0 0 (MQ below (QM D dA h A σ' none) args s 0 0 A) (F0 m 0 ls []) := by
  have hx := C.1.1
  have hb := C.1.2.1
  have hown := C.1.2.2.2.2.1
  have hT := C.1.2.2.2.2.2.1
  unfold M_bad at hM
  refine lv_aload_n (pc := 0) hx hb dM_bad_0 rfl (lv_at hl 0 rfl) ?_
  refine lv_iconst (pc := 1) (v := 5) hx hb dM_bad_1 (by decide) ?_
  refine pM (pc := 2) (ty := .int) C hW 20 10 (by decide) q_1677 rfl rfl (by decide +kernel) rfl rfl (st_token dA h _ _) dM_bad_2 (fun H locs hW => ?_)
  obtain ⟨σ1, eσ1, hM⟩ := bnd_some hM
  rw [← eσ1] at hW
  refine lv_aload_n (pc := 5) hx hb dM_bad_5 rfl (lv_at hl 0 rfl) ?_
  refine lv_aload_n (pc := 6) hx hb dM_bad_6 rfl (lv_at hl 0 rfl) ?_
  refine gM (pc := 7) C hW 21 (by decide) q_1678 rfl rfl dM_bad_7 ?_
  refine pM (pc := 10) (ty := .int) C hW 22 12 (by decide) q_1679 rfl rfl (by decide +kernel) rfl rfl (st_to dA h _ _) dM_bad_10 (fun H locs hW => ?_)
  obtain ⟨σ2, eσ2, hM⟩ := bnd_some hM
  rw [← eσ2] at hW
  obtain ⟨rfl, rfl⟩ := sm_p hM
  exact x_retMv (pc := 13) C rfl hW dM_bad_13
theorem kM_bad (l : Launch) (D : va_G) (dA : Nat → ClassId) (h : Nat → Nat)  (σ : MS) {r : Int32} {σ' : MS} (hM : M_bad  σ = some (r, σ')) : KM l D dA yM_bad cM_bad 1 none rm_bad h σ [] none σ' := x_enterM rfl (Nat.le_of_ble_eq_true rfl) (fun p e s m args below meth c A C hW ls hl => bM_bad_0 C  σ hM s.heap [] hW ls hl)
def M_charAt_19 (t0 : Int32) (σ : MS) : Option Int32 :=
  some t0
set_option maxHeartbeats 4000000 in
set_option maxRecDepth 100000 in
theorem bM_charAt_19  {r : Int32} (C : CxM p s m args meth c cM_charAt 2 (some .int) D dA A) (t0 : Int32) (σ : MS) (hM : M_charAt_19  t0 σ = some r) (hW : WdM D dA h A s σ s.heap []) (ls : Array Slot) (hl : lv_has ls 2 []) : W p l e rm_charAt s m args below meth c s.heap [] 0 0 (MQ below (QS (some (.int r))) args s 0 0 (fun _ => False)) (F0 m 19 ls [.int t0]) := by
  have hx := C.1.1
  have hb := C.1.2.1
  have hown := C.1.2.2.2.2.1
  have hT := C.1.2.2.2.2.2.1
  unfold M_charAt_19 at hM
  obtain rfl := sm_i hM
  exact x_retS (pc := 19) C.1 rfl dM_charAt_19
def M_charAt (x1 : Int32) (σ : MS) : Option Int32 :=
  (if (σ.1 2) ≤ x1 then M_charAt_19  (10 : Int32) σ else gd (inB x1 4100) (M_charAt_19  (σ.2 1 x1.toNatClampNeg) σ))
set_option maxHeartbeats 4000000 in
set_option maxRecDepth 100000 in
theorem bM_charAt_0  {r : Int32} (C : CxM p s m args meth c cM_charAt 2 (some .int) D dA A) (x1 : Int32) (σ : MS) (hM : M_charAt  x1 σ = some r) (hW : WdM D dA h A s σ s.heap []) (ls : Array Slot) (hl : lv_has ls 2 [(0, .ref (h 0)), (1, .int x1)]) : W p l e rm_charAt s m args below meth c s.heap [] 0 0 (MQ below (QS (some (.int r))) args s 0 0 (fun _ => False)) (F0 m 0 ls []) := by
  have hx := C.1.1
  have hb := C.1.2.1
  have hown := C.1.2.2.2.2.1
  have hT := C.1.2.2.2.2.2.1
  unfold M_charAt at hM
  refine lv_iload_n (pc := 0) hx hb dM_charAt_0 rfl (lv_at hl 1 rfl) ?_
  refine lv_aload_n (pc := 1) hx hb dM_charAt_1 rfl (lv_at hl 0 rfl) ?_
  refine gM (pc := 2) C hW 7 (by decide) q_1664 rfl rfl dM_charAt_2 ?_
  refine lv_icmp_ge (pc := 5) (tgt := 17) hx hb dM_charAt_5 (by decide) (fun hc => ?_) (fun hc => ?_)
  · replace hM := it_t hc hM
    refine lv_bipush (pc := 17) (v := 10) hx hb dM_charAt_17 (by decide) ?_
    exact bM_charAt_19  C  _ _ hM hW _ (lv_sub hl [] rfl)
  · replace hM := it_f hc hM
    refine lv_aload_n (pc := 8) hx hb dM_charAt_8 rfl (lv_at hl 0 rfl) ?_
    refine gM (pc := 9) C hW 6 (by decide) q_1663 rfl rfl dM_charAt_9 ?_
    refine lv_iload_n (pc := 12) hx hb dM_charAt_12 rfl (lv_at hl 1 rfl) ?_
    obtain ⟨hg1, hM⟩ := gd_some hM
    refine x_ldC (pc := 13) C hW 5 rfl hg1 dM_charAt_13 ?_
    refine lv_goto (pc := 14) (tgt := 19) hx hb dM_charAt_14 (by decide) ?_
    exact bM_charAt_19  C  _ _ hM hW _ (lv_sub hl [] rfl)
theorem kM_charAt (l : Launch) (D : va_G) (dA : Nat → ClassId) (h : Nat → Nat) (x1 : Int32) (σ : MS) {r : Int32} (hM : M_charAt x1 σ = some r) : KR l D dA yM_charAt cM_charAt 2 (some .int) rm_charAt h σ [.int x1] (some (.int r)) := x_enterR rfl (Nat.le_of_ble_eq_true rfl) (fun p e s m args below meth c A C hW ls hl => bM_charAt_0 C x1 σ hM hW ls hl)
def M_isDigit_17 (t0 : Int32) : Option Int32 :=
  gd (isB t0) (some t0)
set_option maxHeartbeats 4000000 in
set_option maxRecDepth 100000 in
theorem bM_isDigit_17  {r : Int32} (C : CxS RM p s m args meth c cM_isDigit 1 (some .boolean)) (t0 : Int32) (hM : M_isDigit_17  t0 = some r) (ls : Array Slot) (hl : lv_has ls 1 []) : W p l e rm_isDigit s m args below meth c s.heap [] 0 0 (MQ below (QS (some (.int r))) args s 0 0 (fun _ => False)) (F0 m 17 ls [.int t0]) := by
  have hx := C.1
  have hb := C.2.1
  have hown := C.2.2.2.2.1
  have hT := C.2.2.2.2.2.1
  unfold M_isDigit_17 at hM
  obtain ⟨hg1, hM⟩ := gd_some hM
  obtain rfl := sm_i hM
  exact x_retSz (pc := 17) C rfl hg1 dM_isDigit_17
def M_isDigit_16  : Option Int32 :=
  M_isDigit_17  (0 : Int32)
set_option maxHeartbeats 4000000 in
set_option maxRecDepth 100000 in
theorem bM_isDigit_16  {r : Int32} (C : CxS RM p s m args meth c cM_isDigit 1 (some .boolean))  (hM : M_isDigit_16   = some r) (ls : Array Slot) (hl : lv_has ls 1 []) : W p l e rm_isDigit s m args below meth c s.heap [] 0 0 (MQ below (QS (some (.int r))) args s 0 0 (fun _ => False)) (F0 m 16 ls []) := by
  have hx := C.1
  have hb := C.2.1
  have hown := C.2.2.2.2.1
  have hT := C.2.2.2.2.2.1
  unfold M_isDigit_16 at hM
  refine lv_iconst (pc := 16) (v := 0) hx hb dM_isDigit_16 (by decide) ?_
  exact bM_isDigit_17  C  _ hM _ (lv_sub hl [] rfl)
def M_isDigit (x0 : Int32) : Option Int32 :=
  (if x0 < (48 : Int32) then M_isDigit_16   else (if (57 : Int32) < x0 then M_isDigit_16   else M_isDigit_17  (1 : Int32)))
set_option maxHeartbeats 4000000 in
set_option maxRecDepth 100000 in
theorem bM_isDigit_0  {r : Int32} (C : CxS RM p s m args meth c cM_isDigit 1 (some .boolean)) (x0 : Int32) (hM : M_isDigit  x0 = some r) (ls : Array Slot) (hl : lv_has ls 1 [(0, .int x0)]) : W p l e rm_isDigit s m args below meth c s.heap [] 0 0 (MQ below (QS (some (.int r))) args s 0 0 (fun _ => False)) (F0 m 0 ls []) := by
  have hx := C.1
  have hb := C.2.1
  have hown := C.2.2.2.2.1
  have hT := C.2.2.2.2.2.1
  unfold M_isDigit at hM
  refine lv_iload_n (pc := 0) hx hb dM_isDigit_0 rfl (lv_at hl 0 rfl) ?_
  refine lv_bipush (pc := 1) (v := 48) hx hb dM_isDigit_1 (by decide) ?_
  refine lv_icmp_lt (pc := 3) (tgt := 16) hx hb dM_isDigit_3 (by decide) (fun hc => ?_) (fun hc => ?_)
  · replace hM := it_t hc hM
    exact bM_isDigit_16  C   hM _ (lv_sub hl [] rfl)
  · replace hM := it_f hc hM
    refine lv_iload_n (pc := 6) hx hb dM_isDigit_6 rfl (lv_at hl 0 rfl) ?_
    refine lv_bipush (pc := 7) (v := 57) hx hb dM_isDigit_7 (by decide) ?_
    refine lv_icmp_gt (pc := 9) (tgt := 16) hx hb dM_isDigit_9 (by decide) (fun hc => ?_) (fun hc => ?_)
    · replace hM := it_t hc hM
      exact bM_isDigit_16  C   hM _ (lv_sub hl [] rfl)
    · replace hM := it_f hc hM
      refine lv_iconst (pc := 12) (v := 1) hx hb dM_isDigit_12 (by decide) ?_
      refine lv_goto (pc := 13) (tgt := 17) hx hb dM_isDigit_13 (by decide) ?_
      exact bM_isDigit_17  C  _ hM _ (lv_sub hl [] rfl)
theorem kM_isDigit (l : Launch) (x0 : Int32) {r : Int32} (hM : M_isDigit x0 = some r) : KS l yM_isDigit cM_isDigit 1 (some .boolean) rm_isDigit [.int x0] (some (.int r)) := x_enterS (by decide +kernel) (Nat.le_of_ble_eq_true rfl) (fun p e s m args below meth c C ls hl => bM_isDigit_0 C x0 hM ls hl)
def M_isLetter_29 (t0 : Int32) : Option Int32 :=
  gd (isB t0) (some t0)
set_option maxHeartbeats 4000000 in
set_option maxRecDepth 100000 in
theorem bM_isLetter_29  {r : Int32} (C : CxS RM p s m args meth c cM_isLetter 1 (some .boolean)) (t0 : Int32) (hM : M_isLetter_29  t0 = some r) (ls : Array Slot) (hl : lv_has ls 1 []) : W p l e rm_isLetter s m args below meth c s.heap [] 0 0 (MQ below (QS (some (.int r))) args s 0 0 (fun _ => False)) (F0 m 29 ls [.int t0]) := by
  have hx := C.1
  have hb := C.2.1
  have hown := C.2.2.2.2.1
  have hT := C.2.2.2.2.2.1
  unfold M_isLetter_29 at hM
  obtain ⟨hg1, hM⟩ := gd_some hM
  obtain rfl := sm_i hM
  exact x_retSz (pc := 29) C rfl hg1 dM_isLetter_29
def M_isLetter_28  : Option Int32 :=
  M_isLetter_29  (0 : Int32)
set_option maxHeartbeats 4000000 in
set_option maxRecDepth 100000 in
theorem bM_isLetter_28  {r : Int32} (C : CxS RM p s m args meth c cM_isLetter 1 (some .boolean))  (hM : M_isLetter_28   = some r) (ls : Array Slot) (hl : lv_has ls 1 []) : W p l e rm_isLetter s m args below meth c s.heap [] 0 0 (MQ below (QS (some (.int r))) args s 0 0 (fun _ => False)) (F0 m 28 ls []) := by
  have hx := C.1
  have hb := C.2.1
  have hown := C.2.2.2.2.1
  have hT := C.2.2.2.2.2.1
  unfold M_isLetter_28 at hM
  refine lv_iconst (pc := 28) (v := 0) hx hb dM_isLetter_28 (by decide) ?_
  exact bM_isLetter_29  C  _ hM _ (lv_sub hl [] rfl)
def M_isLetter_24  : Option Int32 :=
  M_isLetter_29  (1 : Int32)
set_option maxHeartbeats 4000000 in
set_option maxRecDepth 100000 in
theorem bM_isLetter_24  {r : Int32} (C : CxS RM p s m args meth c cM_isLetter 1 (some .boolean))  (hM : M_isLetter_24   = some r) (ls : Array Slot) (hl : lv_has ls 1 []) : W p l e rm_isLetter s m args below meth c s.heap [] 0 0 (MQ below (QS (some (.int r))) args s 0 0 (fun _ => False)) (F0 m 24 ls []) := by
  have hx := C.1
  have hb := C.2.1
  have hown := C.2.2.2.2.1
  have hT := C.2.2.2.2.2.1
  unfold M_isLetter_24 at hM
  refine lv_iconst (pc := 24) (v := 1) hx hb dM_isLetter_24 (by decide) ?_
  refine lv_goto (pc := 25) (tgt := 29) hx hb dM_isLetter_25 (by decide) ?_
  exact bM_isLetter_29  C  _ hM _ (lv_sub hl [] rfl)
def M_isLetter_12 (x0 : Int32) : Option Int32 :=
  (if x0 < (65 : Int32) then M_isLetter_28   else (if (90 : Int32) < x0 then M_isLetter_28   else M_isLetter_24  ))
set_option maxHeartbeats 4000000 in
set_option maxRecDepth 100000 in
theorem bM_isLetter_12  {r : Int32} (C : CxS RM p s m args meth c cM_isLetter 1 (some .boolean)) (x0 : Int32) (hM : M_isLetter_12  x0 = some r) (ls : Array Slot) (hl : lv_has ls 1 [(0, .int x0)]) : W p l e rm_isLetter s m args below meth c s.heap [] 0 0 (MQ below (QS (some (.int r))) args s 0 0 (fun _ => False)) (F0 m 12 ls []) := by
  have hx := C.1
  have hb := C.2.1
  have hown := C.2.2.2.2.1
  have hT := C.2.2.2.2.2.1
  unfold M_isLetter_12 at hM
  refine lv_iload_n (pc := 12) hx hb dM_isLetter_12 rfl (lv_at hl 0 rfl) ?_
  refine lv_bipush (pc := 13) (v := 65) hx hb dM_isLetter_13 (by decide) ?_
  refine lv_icmp_lt (pc := 15) (tgt := 28) hx hb dM_isLetter_15 (by decide) (fun hc => ?_) (fun hc => ?_)
  · replace hM := it_t hc hM
    exact bM_isLetter_28  C   hM _ (lv_sub hl [] rfl)
  · replace hM := it_f hc hM
    refine lv_iload_n (pc := 18) hx hb dM_isLetter_18 rfl (lv_at hl 0 rfl) ?_
    refine lv_bipush (pc := 19) (v := 90) hx hb dM_isLetter_19 (by decide) ?_
    refine lv_icmp_gt (pc := 21) (tgt := 28) hx hb dM_isLetter_21 (by decide) (fun hc => ?_) (fun hc => ?_)
    · replace hM := it_t hc hM
      exact bM_isLetter_28  C   hM _ (lv_sub hl [] rfl)
    · replace hM := it_f hc hM
      exact bM_isLetter_24  C   hM _ (lv_sub hl [] rfl)
def M_isLetter (x0 : Int32) : Option Int32 :=
  (if x0 < (97 : Int32) then M_isLetter_12  x0 else (if x0 ≤ (122 : Int32) then M_isLetter_24   else M_isLetter_12  x0))
set_option maxHeartbeats 4000000 in
set_option maxRecDepth 100000 in
theorem bM_isLetter_0  {r : Int32} (C : CxS RM p s m args meth c cM_isLetter 1 (some .boolean)) (x0 : Int32) (hM : M_isLetter  x0 = some r) (ls : Array Slot) (hl : lv_has ls 1 [(0, .int x0)]) : W p l e rm_isLetter s m args below meth c s.heap [] 0 0 (MQ below (QS (some (.int r))) args s 0 0 (fun _ => False)) (F0 m 0 ls []) := by
  have hx := C.1
  have hb := C.2.1
  have hown := C.2.2.2.2.1
  have hT := C.2.2.2.2.2.1
  unfold M_isLetter at hM
  refine lv_iload_n (pc := 0) hx hb dM_isLetter_0 rfl (lv_at hl 0 rfl) ?_
  refine lv_bipush (pc := 1) (v := 97) hx hb dM_isLetter_1 (by decide) ?_
  refine lv_icmp_lt (pc := 3) (tgt := 12) hx hb dM_isLetter_3 (by decide) (fun hc => ?_) (fun hc => ?_)
  · replace hM := it_t hc hM
    exact bM_isLetter_12  C  _ hM _ (lv_sub hl [0] rfl)
  · replace hM := it_f hc hM
    refine lv_iload_n (pc := 6) hx hb dM_isLetter_6 rfl (lv_at hl 0 rfl) ?_
    refine lv_bipush (pc := 7) (v := 122) hx hb dM_isLetter_7 (by decide) ?_
    refine lv_icmp_le (pc := 9) (tgt := 24) hx hb dM_isLetter_9 (by decide) (fun hc => ?_) (fun hc => ?_)
    · replace hM := it_t hc hM
      exact bM_isLetter_24  C   hM _ (lv_sub hl [] rfl)
    · replace hM := it_f hc hM
      exact bM_isLetter_12  C  _ hM _ (lv_sub hl [0] rfl)
theorem kM_isLetter (l : Launch) (x0 : Int32) {r : Int32} (hM : M_isLetter x0 = some r) : KS l yM_isLetter cM_isLetter 1 (some .boolean) rm_isLetter [.int x0] (some (.int r)) := x_enterS (by decide +kernel) (Nat.le_of_ble_eq_true rfl) (fun p e s m args below meth c C ls hl => bM_isLetter_0 C x0 hM ls hl)
def M_isPlain_37 (t0 : Int32) : Option Int32 :=
  gd (isB t0) (some t0)
set_option maxHeartbeats 4000000 in
set_option maxRecDepth 100000 in
theorem bM_isPlain_37  {r : Int32} (C : CxS RM p s m args meth c cM_isPlain 1 (some .boolean)) (t0 : Int32) (hM : M_isPlain_37  t0 = some r) (ls : Array Slot) (hl : lv_has ls 1 []) : W p l e rm_isPlain s m args below meth c s.heap [] 0 0 (MQ below (QS (some (.int r))) args s 0 0 (fun _ => False)) (F0 m 37 ls [.int t0]) := by
  have hx := C.1
  have hb := C.2.1
  have hown := C.2.2.2.2.1
  have hT := C.2.2.2.2.2.1
  unfold M_isPlain_37 at hM
  obtain ⟨hg1, hM⟩ := gd_some hM
  obtain rfl := sm_i hM
  exact x_retSz (pc := 37) C rfl hg1 dM_isPlain_37
def M_isPlain_32  : Option Int32 :=
  M_isPlain_37  (1 : Int32)
set_option maxHeartbeats 4000000 in
set_option maxRecDepth 100000 in
theorem bM_isPlain_32  {r : Int32} (C : CxS RM p s m args meth c cM_isPlain 1 (some .boolean))  (hM : M_isPlain_32   = some r) (ls : Array Slot) (hl : lv_has ls 1 []) : W p l e rm_isPlain s m args below meth c s.heap [] 0 0 (MQ below (QS (some (.int r))) args s 0 0 (fun _ => False)) (F0 m 32 ls []) := by
  have hx := C.1
  have hb := C.2.1
  have hown := C.2.2.2.2.1
  have hT := C.2.2.2.2.2.1
  unfold M_isPlain_32 at hM
  refine lv_iconst (pc := 32) (v := 1) hx hb dM_isPlain_32 (by decide) ?_
  refine lv_goto (pc := 33) (tgt := 37) hx hb dM_isPlain_33 (by decide) ?_
  exact bM_isPlain_37  C  _ hM _ (lv_sub hl [] rfl)
def M_isPlain (x0 : Int32) : Option Int32 :=
  cr (M_isDigit  x0) (fun r1 => (if r1 = 0 then cr (M_isLetter  x0) (fun r2 => (if r2 = 0 then (if x0 = (95 : Int32) then M_isPlain_32   else (if x0 = (46 : Int32) then M_isPlain_32   else (if x0 = (36 : Int32) then M_isPlain_32   else M_isPlain_37  (0 : Int32)))) else M_isPlain_32  )) else M_isPlain_32  ))
set_option maxHeartbeats 4000000 in
set_option maxRecDepth 100000 in
theorem bM_isPlain_0  {r : Int32} (C : CxS RM p s m args meth c cM_isPlain 1 (some .boolean)) (x0 : Int32) (hM : M_isPlain  x0 = some r) (ls : Array Slot) (hl : lv_has ls 1 [(0, .int x0)]) : W p l e rm_isPlain s m args below meth c s.heap [] 0 0 (MQ below (QS (some (.int r))) args s 0 0 (fun _ => False)) (F0 m 0 ls []) := by
  have hx := C.1
  have hb := C.2.1
  have hown := C.2.2.2.2.1
  have hT := C.2.2.2.2.2.1
  unfold M_isPlain at hM
  refine lv_iload_n (pc := 0) hx hb dM_isPlain_0 rfl (lv_at hl 0 rfl) ?_
  obtain ⟨r1, hr1, hM⟩ := cr_some hM
  refine x_callSi (pc := 1) C (kM_isDigit l  x0 hr1) gM_isDigit_361 ⟨rfl, by decide, by decide, by decide +kernel⟩ ⟨rfl, rfl⟩ ⟨by decide, by decide⟩ ⟨by decide, by decide⟩ (As := [.int x0]) (n := 1) rfl hl.1 rfl (Nat.le_of_ble_eq_true rfl) dM_isPlain_1 ?_
  refine lv_if_ne (pc := 4) (tgt := 32) hx hb dM_isPlain_4 (by decide) (fun hc => ?_) (fun hc => ?_)
  · replace hM := it_f hc hM
    exact bM_isPlain_32  C   hM _ (lv_sub hl [] rfl)
  · replace hM := it_t hc hM
    refine lv_iload_n (pc := 7) hx hb dM_isPlain_7 rfl (lv_at hl 0 rfl) ?_
    obtain ⟨r2, hr2, hM⟩ := cr_some hM
    refine x_callSi (pc := 8) C (kM_isLetter l  x0 hr2) gM_isLetter_365 ⟨rfl, by decide, by decide, by decide +kernel⟩ ⟨rfl, rfl⟩ ⟨by decide, by decide⟩ ⟨by decide, by decide⟩ (As := [.int x0]) (n := 1) rfl hl.1 rfl (Nat.le_of_ble_eq_true rfl) dM_isPlain_8 ?_
    refine lv_if_ne (pc := 11) (tgt := 32) hx hb dM_isPlain_11 (by decide) (fun hc => ?_) (fun hc => ?_)
    · replace hM := it_f hc hM
      exact bM_isPlain_32  C   hM _ (lv_sub hl [] rfl)
    · replace hM := it_t hc hM
      refine lv_iload_n (pc := 14) hx hb dM_isPlain_14 rfl (lv_at hl 0 rfl) ?_
      refine lv_bipush (pc := 15) (v := 95) hx hb dM_isPlain_15 (by decide) ?_
      refine lv_icmp_eq (pc := 17) (tgt := 32) hx hb dM_isPlain_17 (by decide) (fun hc => ?_) (fun hc => ?_)
      · replace hM := it_t hc hM
        exact bM_isPlain_32  C   hM _ (lv_sub hl [] rfl)
      · replace hM := it_f hc hM
        refine lv_iload_n (pc := 20) hx hb dM_isPlain_20 rfl (lv_at hl 0 rfl) ?_
        refine lv_bipush (pc := 21) (v := 46) hx hb dM_isPlain_21 (by decide) ?_
        refine lv_icmp_eq (pc := 23) (tgt := 32) hx hb dM_isPlain_23 (by decide) (fun hc => ?_) (fun hc => ?_)
        · replace hM := it_t hc hM
          exact bM_isPlain_32  C   hM _ (lv_sub hl [] rfl)
        · replace hM := it_f hc hM
          refine lv_iload_n (pc := 26) hx hb dM_isPlain_26 rfl (lv_at hl 0 rfl) ?_
          refine lv_bipush (pc := 27) (v := 36) hx hb dM_isPlain_27 (by decide) ?_
          refine lv_icmp_ne (pc := 29) (tgt := 36) hx hb dM_isPlain_29 (by decide) (fun hc => ?_) (fun hc => ?_)
          · replace hM := it_f hc hM
            refine lv_iconst (pc := 36) (v := 0) hx hb dM_isPlain_36 (by decide) ?_
            exact bM_isPlain_37  C  _ hM _ (lv_sub hl [] rfl)
          · replace hM := it_t hc hM
            exact bM_isPlain_32  C   hM _ (lv_sub hl [] rfl)
theorem kM_isPlain (l : Launch) (x0 : Int32) {r : Int32} (hM : M_isPlain x0 = some r) : KS l yM_isPlain cM_isPlain 1 (some .boolean) rm_isPlain [.int x0] (some (.int r)) := x_enterS (by decide +kernel) (Nat.le_of_ble_eq_true rfl) (fun p e s m args below meth c C ls hl => bM_isPlain_0 C x0 hM ls hl)
def M_plain_2 (N : Nat)  : Nat → Int32 → MS → Option Int32
  | 0 => fun _ _ => none
  | n + 1 => fun x2 σ => cr (M_charAt  x2 σ) (fun r1 => cr (M_isPlain  r1) (fun r2 => (if r2 = 0 then some x2 else (M_plain_2 N  n) (x2 + (1 : Int32)) σ)))
set_option maxHeartbeats 4000000 in
set_option maxRecDepth 100000 in
theorem bM_plain_2 (N : Nat)  {r : Int32} (C : CxM p s m args meth c cM_plain 3 (some .int) D dA A) : ∀ (n : Nat) (x2 : Int32) (σ : MS), M_plain_2 N  n x2 σ = some r → WdM D dA h A s σ s.heap [] → ∀ (ls : Array Slot), lv_has ls 3 [(0, .ref (h 0)), (2, .int x2)] → W p l e rm_plain s m args below meth c s.heap [] 0 0 (MQ below (QS (some (.int r))) args s 0 0 (fun _ => False)) (F0 m 2 ls []) := by
  have hx := C.1.1
  have hb := C.1.2.1
  have hown := C.1.2.2.2.2.1
  have hT := C.1.2.2.2.2.2.1
  intro n
  induction n with
  | zero => intro x2 σ hM; cases hM
  | succ n hrec2 =>
    intro x2 σ hM hW ls hl
    rw [M_plain_2] at hM
    refine lv_aload_n (pc := 2) hx hb dM_plain_2 rfl (lv_at hl 0 rfl) ?_
    refine lv_iload_n (pc := 3) hx hb dM_plain_3 rfl (lv_at hl 1 rfl) ?_
    obtain ⟨r1, hr1, hM⟩ := cr_some hM
    refine x_callRi (pc := 4) C hW (kM_charAt l D dA h  x2 _ hr1) gM_charAt_368 ⟨rfl, by decide, by decide, by decide +kernel⟩ ⟨rfl, rfl⟩ ⟨by decide, by decide⟩ ⟨by decide, by decide⟩ (As := [.int x2]) (n := 1) rfl hl.1 rfl (Nat.le_of_ble_eq_true rfl) dM_plain_4 ?_
    obtain ⟨r2, hr2, hM⟩ := cr_some hM
    refine x_callSi (pc := 7) C.1 (kM_isPlain l  r1 hr2) gM_isPlain_372 ⟨rfl, by decide, by decide, by decide +kernel⟩ ⟨rfl, rfl⟩ ⟨by decide, by decide⟩ ⟨by decide, by decide⟩ (As := [.int r1]) (n := 1) rfl hl.1 rfl (Nat.le_of_ble_eq_true rfl) dM_plain_7 ?_
    refine lv_if_eq (pc := 10) (tgt := 19) hx hb dM_plain_10 (by decide) (fun hc => ?_) (fun hc => ?_)
    · replace hM := it_t hc hM
      refine lv_iload_n (pc := 19) hx hb dM_plain_19 rfl (lv_at hl 1 rfl) ?_
      obtain rfl := sm_i hM
      exact x_retS (pc := 20) C.1 rfl dM_plain_20
    · replace hM := it_f hc hM
      refine lv_iinc (pc := 13) (v := x2 + (1 : Int32)) (lv' := [(2, .int (x2 + (1 : Int32))), (0, .ref (h 0))]) hx hb dM_plain_13 hl (k := 1) rfl rfl (by decide) rfl (fun ls hl => ?_)
      refine lv_goto (pc := 16) (tgt := 2) hx hb dM_plain_16 (by decide) ?_
      exact hrec2 _ _ hM hW _ (lv_sub hl [1, 0] rfl)
def M_plain (N : Nat) (x1 : Int32) (σ : MS) : Option Int32 :=
  M_plain_2 N  N x1 σ
set_option maxHeartbeats 4000000 in
set_option maxRecDepth 100000 in
theorem bM_plain_0 (N : Nat)  {r : Int32} (C : CxM p s m args meth c cM_plain 3 (some .int) D dA A) (x1 : Int32) (σ : MS) (hM : M_plain N  x1 σ = some r) (hW : WdM D dA h A s σ s.heap []) (ls : Array Slot) (hl : lv_has ls 3 [(0, .ref (h 0)), (1, .int x1)]) : W p l e rm_plain s m args below meth c s.heap [] 0 0 (MQ below (QS (some (.int r))) args s 0 0 (fun _ => False)) (F0 m 0 ls []) := by
  have hx := C.1.1
  have hb := C.1.2.1
  have hown := C.1.2.2.2.2.1
  have hT := C.1.2.2.2.2.2.1
  unfold M_plain at hM
  refine lv_iload_n (pc := 0) hx hb dM_plain_0 rfl (lv_at hl 1 rfl) ?_
  refine lv_istore_n (pc := 1) (lv' := [(2, .int x1), (0, .ref (h 0)), (1, .int x1)]) hx hb dM_plain_1 rfl hl (by decide) rfl (fun ls hl => ?_)
  exact bM_plain_2 N  C  N _ _ hM hW _ (lv_sub hl [1, 0] rfl)
theorem kM_plain (l : Launch) (D : va_G) (dA : Nat → ClassId) (h : Nat → Nat) (N : Nat) (x1 : Int32) (σ : MS) {r : Int32} (hM : M_plain N x1 σ = some r) : KR l D dA yM_plain cM_plain 3 (some .int) rm_plain h σ [.int x1] (some (.int r)) := x_enterR rfl (Nat.le_of_ble_eq_true rfl) (fun p e s m args below meth c A C hW ls hl => bM_plain_0 N C x1 σ hM hW ls hl)
end
