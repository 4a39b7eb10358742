theorem u_0 {w : Cond} (h : w ∈ tables_1_1) (g : goodWord w = true) : w ∈ lw_gd := lw_gdm (show w ∈ tables_1 from List.mem_append_left _ h) g
theorem u_1 {w : Cond} (h : w ∈ tables_1_2) (g : goodWord w = true) : w ∈ lw_gd := lw_gdm (show w ∈ tables_1 from List.mem_append_right _ (List.mem_append_left _ h)) g
theorem u_2 {w : Cond} (h : w ∈ tables_1_3) (g : goodWord w = true) : w ∈ lw_gd := lw_gdm (show w ∈ tables_1 from List.mem_append_right _ (List.mem_append_right _ (List.mem_append_left _ h))) g
theorem u_3 {w : Cond} (h : w ∈ tables_1_4) (g : goodWord w = true) : w ∈ lw_gd := lw_gdm (show w ∈ tables_1 from List.mem_append_right _ (List.mem_append_right _ (List.mem_append_right _ (List.mem_append_left _ h)))) g
theorem u_4 {w : Cond} (h : w ∈ tables_1_5) (g : goodWord w = true) : w ∈ lw_gd := lw_gdm (show w ∈ tables_1 from List.mem_append_right _ (List.mem_append_right _ (List.mem_append_right _ (List.mem_append_right _ (List.mem_append_left _ h))))) g
theorem u_5 {w : Cond} (h : w ∈ tables_1_6) (g : goodWord w = true) : w ∈ lw_gd := lw_gdm (show w ∈ tables_1 from List.mem_append_right _ (List.mem_append_right _ (List.mem_append_right _ (List.mem_append_right _ (List.mem_append_right _ (List.mem_append_left _ h)))))) g
theorem u_6 {w : Cond} (h : w ∈ tables_1_7) (g : goodWord w = true) : w ∈ lw_gd := lw_gdm (show w ∈ tables_1 from List.mem_append_right _ (List.mem_append_right _ (List.mem_append_right _ (List.mem_append_right _ (List.mem_append_right _ (List.mem_append_right _ (List.mem_append_left _ h))))))) g
theorem u_7 {w : Cond} (h : w ∈ tables_1_8) (g : goodWord w = true) : w ∈ lw_gd := lw_gdm (show w ∈ tables_1 from List.mem_append_right _ (List.mem_append_right _ (List.mem_append_right _ (List.mem_append_right _ (List.mem_append_right _ (List.mem_append_right _ (List.mem_append_right _ (List.mem_append_left _ h)))))))) g
theorem u_8 {w : Cond} (h : w ∈ tables_1_9) (g : goodWord w = true) : w ∈ lw_gd := lw_gdm (show w ∈ tables_1 from List.mem_append_right _ (List.mem_append_right _ (List.mem_append_right _ (List.mem_append_right _ (List.mem_append_right _ (List.mem_append_right _ (List.mem_append_right _ (List.mem_append_right _ (List.mem_append_left _ h))))))))) g
theorem u_9 {w : Cond} (h : w ∈ tables_1_10) (g : goodWord w = true) : w ∈ lw_gd := lw_gdm (show w ∈ tables_1 from List.mem_append_right _ (List.mem_append_right _ (List.mem_append_right _ (List.mem_append_right _ (List.mem_append_right _ (List.mem_append_right _ (List.mem_append_right _ (List.mem_append_right _ (List.mem_append_right _ (List.mem_append_left _ h)))))))))) g
theorem u_10 {w : Cond} (h : w ∈ tables_1_11) (g : goodWord w = true) : w ∈ lw_gd := lw_gdm (show w ∈ tables_1 from List.mem_append_right _ (List.mem_append_right _ (List.mem_append_right _ (List.mem_append_right _ (List.mem_append_right _ (List.mem_append_right _ (List.mem_append_right _ (List.mem_append_right _ (List.mem_append_right _ (List.mem_append_right _ (h))))))))))) g
theorem q_23 : (Jvm.Cond.initialized "LineAssemblerModel") ∈ lw_gd := u_0 (List.mem_of_getElem? (i := 23) (by decide +kernel)) (by decide +kernel)
theorem q_1660 : (Jvm.Cond.fieldLink "LineAssemblerModel" (348 : Nat) "LineAssemblerModel" "thrown" "I") ∈ lw_gd := u_6 (List.mem_of_getElem? (i := 220) (by decide +kernel)) (by decide +kernel)
theorem q_1661 : (Jvm.Cond.fieldLink "LineAssemblerModel" (323 : Nat) "LineAssemblerModel" "typed" "[C") ∈ lw_gd := u_6 (List.mem_of_getElem? (i := 221) (by decide +kernel)) (by decide +kernel)
theorem q_1662 : (Jvm.Cond.fieldLink "LineAssemblerModel" (352 : Nat) "LineAssemblerModel" "typedSize" "I") ∈ lw_gd := u_6 (List.mem_of_getElem? (i := 222) (by decide +kernel)) (by decide +kernel)
theorem q_1663 : (Jvm.Cond.fieldLink "LineAssemblerModel" (327 : Nat) "LineAssemblerModel" "text" "[C") ∈ lw_gd := u_6 (List.mem_of_getElem? (i := 223) (by decide +kernel)) (by decide +kernel)
theorem q_1664 : (Jvm.Cond.fieldLink "LineAssemblerModel" (358 : Nat) "LineAssemblerModel" "size" "I") ∈ lw_gd := u_6 (List.mem_of_getElem? (i := 224) (by decide +kernel)) (by decide +kernel)
theorem q_1667 : (Jvm.Cond.fieldLink "LineAssemblerModel" (330 : Nat) "LineAssemblerModel" "place" "[I") ∈ lw_gd := u_6 (List.mem_of_getElem? (i := 227) (by decide +kernel)) (by decide +kernel)
theorem q_1668 : (Jvm.Cond.fieldLink "LineAssemblerModel" (333 : Nat) "LineAssemblerModel" "offset" "[I") ∈ lw_gd := u_6 (List.mem_of_getElem? (i := 228) (by decide +kernel)) (by decide +kernel)
theorem q_1673 : (Jvm.Cond.fieldLink "LineAssemblerModel" (456 : Nat) "LineAssemblerModel" "textSize" "I") ∈ lw_gd := u_6 (List.mem_of_getElem? (i := 233) (by decide +kernel)) (by decide +kernel)
theorem q_1676 : (Jvm.Cond.fieldLink "LineAssemblerModel" (384 : Nat) "LineAssemblerModel" "at" "I") ∈ lw_gd := u_6 (List.mem_of_getElem? (i := 236) (by decide +kernel)) (by decide +kernel)
theorem q_1677 : (Jvm.Cond.fieldLink "LineAssemblerModel" (375 : Nat) "LineAssemblerModel" "token" "I") ∈ lw_gd := u_6 (List.mem_of_getElem? (i := 237) (by decide +kernel)) (by decide +kernel)
theorem q_1678 : (Jvm.Cond.fieldLink "LineAssemblerModel" (378 : Nat) "LineAssemblerModel" "from" "I") ∈ lw_gd := u_6 (List.mem_of_getElem? (i := 238) (by decide +kernel)) (by decide +kernel)
theorem q_1679 : (Jvm.Cond.fieldLink "LineAssemblerModel" (381 : Nat) "LineAssemblerModel" "to" "I") ∈ lw_gd := u_6 (List.mem_of_getElem? (i := 239) (by decide +kernel)) (by decide +kernel)
theorem q_1680 : (Jvm.Cond.fieldLink "LineAssemblerModel" (409 : Nat) "LineAssemblerModel" "number" "I") ∈ lw_gd := u_7 (List.mem_of_getElem? (i := 0) (by decide +kernel)) (by decide +kernel)
theorem q_1681 : (Jvm.Cond.fieldLink "LineAssemblerModel" (420 : Nat) "LineAssemblerModel" "fault" "I") ∈ lw_gd := u_7 (List.mem_of_getElem? (i := 1) (by decide +kernel)) (by decide +kernel)
theorem q_1682 : (Jvm.Cond.fieldLink "LineAssemblerModel" (423 : Nat) "LineAssemblerModel" "line" "I") ∈ lw_gd := u_7 (List.mem_of_getElem? (i := 2) (by decide +kernel)) (by decide +kernel)
theorem q_1788 : (Jvm.Cond.constant "LineAssemblerModel" (355 : Nat) (65536 : Int32)) ∈ lw_gd := u_7 (List.mem_of_getElem? (i := 108) (by decide +kernel)) (by decide +kernel)
theorem q_1789 : (Jvm.Cond.constantLong "LineAssemblerModel" (356 : Nat) (255 : Int64)) ∈ lw_gd := u_7 (List.mem_of_getElem? (i := 109) (by decide +kernel)) (by decide +kernel)
theorem q_1810 : (Jvm.Cond.methodLink "LineAssemblerModel" (368 : Nat) ({ cls := "LineAssemblerModel", name := "charAt", desc := "(I)I" } : Jvm.MethodName)) ∈ lw_gd := u_7 (List.mem_of_getElem? (i := 130) (by decide +kernel)) (by decide +kernel)
theorem q_1812 : (Jvm.Cond.instanceMethod ({ cls := "LineAssemblerModel", name := "charAt", desc := "(I)I" } : Jvm.MethodName)) ∈ lw_gd := u_7 (List.mem_of_getElem? (i := 132) (by decide +kernel)) (by decide +kernel)
theorem q_1813 : (Jvm.Cond.code ({ cls := "LineAssemblerModel", name := "charAt", desc := "(I)I" } : Jvm.MethodName) prog_14_method_5_code (2 : Nat) (Option.some Jvm.ClassFile.FieldType.int)) ∈ lw_gd := u_7 (List.mem_of_getElem? (i := 133) (by decide +kernel)) (by decide +kernel)
theorem q_1814 : (Jvm.Cond.methodLink "LineAssemblerModel" (361 : Nat) ({ cls := "LineAssemblerModel", name := "isDigit", desc := "(I)Z" } : Jvm.MethodName)) ∈ lw_gd := u_7 (List.mem_of_getElem? (i := 134) (by decide +kernel)) (by decide +kernel)
theorem q_1815 : (Jvm.Cond.static ({ cls := "LineAssemblerModel", name := "isDigit", desc := "(I)Z" } : Jvm.MethodName)) ∈ lw_gd := u_7 (List.mem_of_getElem? (i := 135) (by decide +kernel)) (by decide +kernel)
theorem q_1816 : (Jvm.Cond.code ({ cls := "LineAssemblerModel", name := "isDigit", desc := "(I)Z" } : Jvm.MethodName) prog_14_method_6_code (1 : Nat) (Option.some Jvm.ClassFile.FieldType.boolean)) ∈ lw_gd := u_7 (List.mem_of_getElem? (i := 136) (by decide +kernel)) (by decide +kernel)
theorem q_1821 : (Jvm.Cond.methodLink "LineAssemblerModel" (372 : Nat) ({ cls := "LineAssemblerModel", name := "isPlain", desc := "(I)Z" } : Jvm.MethodName)) ∈ lw_gd := u_7 (List.mem_of_getElem? (i := 141) (by decide +kernel)) (by decide +kernel)
theorem q_1822 : (Jvm.Cond.static ({ cls := "LineAssemblerModel", name := "isPlain", desc := "(I)Z" } : Jvm.MethodName)) ∈ lw_gd := u_7 (List.mem_of_getElem? (i := 142) (by decide +kernel)) (by decide +kernel)
theorem q_1823 : (Jvm.Cond.code ({ cls := "LineAssemblerModel", name := "isPlain", desc := "(I)Z" } : Jvm.MethodName) prog_14_method_8_code (1 : Nat) (Option.some Jvm.ClassFile.FieldType.boolean)) ∈ lw_gd := u_7 (List.mem_of_getElem? (i := 143) (by decide +kernel)) (by decide +kernel)
theorem q_1824 : (Jvm.Cond.methodLink "LineAssemblerModel" (365 : Nat) ({ cls := "LineAssemblerModel", name := "isLetter", desc := "(I)Z" } : Jvm.MethodName)) ∈ lw_gd := u_7 (List.mem_of_getElem? (i := 144) (by decide +kernel)) (by decide +kernel)
theorem q_1825 : (Jvm.Cond.static ({ cls := "LineAssemblerModel", name := "isLetter", desc := "(I)Z" } : Jvm.MethodName)) ∈ lw_gd := u_7 (List.mem_of_getElem? (i := 145) (by decide +kernel)) (by decide +kernel)
theorem q_1826 : (Jvm.Cond.code ({ cls := "LineAssemblerModel", name := "isLetter", desc := "(I)Z" } : Jvm.MethodName) prog_14_method_7_code (1 : Nat) (Option.some Jvm.ClassFile.FieldType.boolean)) ∈ lw_gd := u_7 (List.mem_of_getElem? (i := 146) (by decide +kernel)) (by decide +kernel)
theorem q_1831 : (Jvm.Cond.methodLink "LineAssemblerModel" (412 : Nat) ({ cls := "LineAssemblerModel", name := "numeral", desc := "(III)J" } : Jvm.MethodName)) ∈ lw_gd := u_7 (List.mem_of_getElem? (i := 151) (by decide +kernel)) (by decide +kernel)
theorem q_1833 : (Jvm.Cond.instanceMethod ({ cls := "LineAssemblerModel", name := "numeral", desc := "(III)J" } : Jvm.MethodName)) ∈ lw_gd := u_7 (List.mem_of_getElem? (i := 153) (by decide +kernel)) (by decide +kernel)
theorem q_1834 : (Jvm.Cond.code ({ cls := "LineAssemblerModel", name := "numeral", desc := "(III)J" } : Jvm.MethodName) prog_14_method_13_code (8 : Nat) (Option.some Jvm.ClassFile.FieldType.long)) ∈ lw_gd := u_7 (List.mem_of_getElem? (i := 154) (by decide +kernel)) (by decide +kernel)
theorem q_1835 : (Jvm.Cond.constantLong "LineAssemblerModel" (402 : Nat) (-1 : Int64)) ∈ lw_gd := u_7 (List.mem_of_getElem? (i := 155) (by decide +kernel)) (by decide +kernel)
theorem q_1836 : (Jvm.Cond.methodLink "LineAssemblerModel" (404 : Nat) ({ cls := "LineAssemblerModel", name := "worth", desc := "(I)I" } : Jvm.MethodName)) ∈ lw_gd := u_7 (List.mem_of_getElem? (i := 156) (by decide +kernel)) (by decide +kernel)
theorem q_1837 : (Jvm.Cond.static ({ cls := "LineAssemblerModel", name := "worth", desc := "(I)I" } : Jvm.MethodName)) ∈ lw_gd := u_7 (List.mem_of_getElem? (i := 157) (by decide +kernel)) (by decide +kernel)
theorem q_1838 : (Jvm.Cond.code ({ cls := "LineAssemblerModel", name := "worth", desc := "(I)I" } : Jvm.MethodName) prog_14_method_12_code (1 : Nat) (Option.some Jvm.ClassFile.FieldType.int)) ∈ lw_gd := u_7 (List.mem_of_getElem? (i := 158) (by decide +kernel)) (by decide +kernel)
theorem q_1839 : (Jvm.Cond.constantLong "LineAssemblerModel" (407 : Nat) (4294967295 : Int64)) ∈ lw_gd := u_7 (List.mem_of_getElem? (i := 159) (by decide +kernel)) (by decide +kernel)
theorem q_1840 : (Jvm.Cond.methodLink "LineAssemblerModel" (393 : Nat) ({ cls := "LineAssemblerModel", name := "bad", desc := "()V" } : Jvm.MethodName)) ∈ lw_gd := u_7 (List.mem_of_getElem? (i := 160) (by decide +kernel)) (by decide +kernel)
theorem q_1842 : (Jvm.Cond.instanceMethod ({ cls := "LineAssemblerModel", name := "bad", desc := "()V" } : Jvm.MethodName)) ∈ lw_gd := u_7 (List.mem_of_getElem? (i := 162) (by decide +kernel)) (by decide +kernel)
theorem q_1843 : (Jvm.Cond.code ({ cls := "LineAssemblerModel", name := "bad", desc := "()V" } : Jvm.MethodName) prog_14_method_10_code (1 : Nat) (Option.none : Option Jvm.ClassFile.FieldType)) ∈ lw_gd := u_7 (List.mem_of_getElem? (i := 163) (by decide +kernel)) (by decide +kernel)
theorem q_1848 : (Jvm.Cond.methodLink "LineAssemblerModel" (416 : Nat) ({ cls := "LineAssemblerModel", name := "shown", desc := "(II)I" } : Jvm.MethodName)) ∈ lw_gd := u_7 (List.mem_of_getElem? (i := 168) (by decide +kernel)) (by decide +kernel)
theorem q_1850 : (Jvm.Cond.instanceMethod ({ cls := "LineAssemblerModel", name := "shown", desc := "(II)I" } : Jvm.MethodName)) ∈ lw_gd := u_7 (List.mem_of_getElem? (i := 170) (by decide +kernel)) (by decide +kernel)
theorem q_1851 : (Jvm.Cond.code ({ cls := "LineAssemblerModel", name := "shown", desc := "(II)I" } : Jvm.MethodName) prog_14_method_15_code (5 : Nat) (Option.some Jvm.ClassFile.FieldType.int)) ∈ lw_gd := u_7 (List.mem_of_getElem? (i := 171) (by decide +kernel)) (by decide +kernel)
theorem q_1939 : (Jvm.Cond.methodLink "LineAssemblerModel" (459 : Nat) ({ cls := "LineAssemblerModel", name := "base", desc := "()I" } : Jvm.MethodName)) ∈ lw_gd := u_8 (List.mem_of_getElem? (i := 19) (by decide +kernel)) (by decide +kernel)
theorem q_1941 : (Jvm.Cond.instanceMethod ({ cls := "LineAssemblerModel", name := "base", desc := "()I" } : Jvm.MethodName)) ∈ lw_gd := u_8 (List.mem_of_getElem? (i := 21) (by decide +kernel)) (by decide +kernel)
theorem q_1942 : (Jvm.Cond.code ({ cls := "LineAssemblerModel", name := "base", desc := "()I" } : Jvm.MethodName) prog_14_method_25_code (1 : Nat) (Option.some Jvm.ClassFile.FieldType.int)) ∈ lw_gd := u_8 (List.mem_of_getElem? (i := 22) (by decide +kernel)) (by decide +kernel)
theorem q_2102 : (Jvm.Cond.methodLink "LineAssemblerModel" (694 : Nat) ({ cls := "LineAssemblerModel", name := "sectionOf", desc := "(I)I" } : Jvm.MethodName)) ∈ lw_gd := u_8 (List.mem_of_getElem? (i := 182) (by decide +kernel)) (by decide +kernel)
theorem q_2104 : (Jvm.Cond.instanceMethod ({ cls := "LineAssemblerModel", name := "sectionOf", desc := "(I)I" } : Jvm.MethodName)) ∈ lw_gd := u_8 (List.mem_of_getElem? (i := 184) (by decide +kernel)) (by decide +kernel)
theorem q_2105 : (Jvm.Cond.code ({ cls := "LineAssemblerModel", name := "sectionOf", desc := "(I)I" } : Jvm.MethodName) prog_14_method_78_code (2 : Nat) (Option.some Jvm.ClassFile.FieldType.int)) ∈ lw_gd := u_8 (List.mem_of_getElem? (i := 185) (by decide +kernel)) (by decide +kernel)
theorem qs_54 : Cond.selects "LineAssemblerModel" (⟨"LineAssemblerModel", "charAt", "(I)I"⟩ : MethodName) ⟨"LineAssemblerModel", "charAt", "(I)I"⟩ ∈ lw_gd := lw_gds (List.mem_of_getElem? (i := 54) (by decide +kernel)) (by decide +kernel)
theorem qs_57 : Cond.selects "LineAssemblerModel" (⟨"LineAssemblerModel", "numeral", "(III)J"⟩ : MethodName) ⟨"LineAssemblerModel", "numeral", "(III)J"⟩ ∈ lw_gd := lw_gds (List.mem_of_getElem? (i := 57) (by decide +kernel)) (by decide +kernel)
theorem qs_58 : Cond.selects "LineAssemblerModel" (⟨"LineAssemblerModel", "bad", "()V"⟩ : MethodName) ⟨"LineAssemblerModel", "bad", "()V"⟩ ∈ lw_gd := lw_gds (List.mem_of_getElem? (i := 58) (by decide +kernel)) (by decide +kernel)
theorem qs_60 : Cond.selects "LineAssemblerModel" (⟨"LineAssemblerModel", "shown", "(II)I"⟩ : MethodName) ⟨"LineAssemblerModel", "shown", "(II)I"⟩ ∈ lw_gd := lw_gds (List.mem_of_getElem? (i := 60) (by decide +kernel)) (by decide +kernel)
theorem qs_80 : Cond.selects "LineAssemblerModel" (⟨"LineAssemblerModel", "base", "()I"⟩ : MethodName) ⟨"LineAssemblerModel", "base", "()I"⟩ ∈ lw_gd := lw_gds (List.mem_of_getElem? (i := 80) (by decide +kernel)) (by decide +kernel)
theorem qs_114 : Cond.selects "LineAssemblerModel" (⟨"LineAssemblerModel", "sectionOf", "(I)I"⟩ : MethodName) ⟨"LineAssemblerModel", "sectionOf", "(I)I"⟩ ∈ lw_gd := lw_gds (List.mem_of_getElem? (i := 114) (by decide +kernel)) (by decide +kernel)
abbrev cM_thrown : ByteArray := prog_14_method_2_code
def yM_thrown : MethodName := ⟨RM, "thrown", "()I"⟩
abbrev rm_thrown : Room := { frames := 0, cells := 0, slots := 0, locals := 0 }
theorem dM_thrown_0 : decode cM_thrown 0 = .ok (.aload_n 0, 1) := by decide +kernel
theorem dM_thrown_1 : decode cM_thrown 1 = .ok (.getfield 348, 3) := by decide +kernel
theorem dM_thrown_4 : decode cM_thrown 4 = .ok (.ireturn, 1) := by decide +kernel
abbrev cM_feed : ByteArray := prog_14_method_3_code
def yM_feed : MethodName := ⟨RM, "feed", "(JI)Z"⟩
abbrev rm_feed : Room := { frames := 0, cells := 0, slots := 0, locals := 0 }
theorem dM_feed_0 : decode cM_feed 0 = .ok (.aload_n 0, 1) := by decide +kernel
theorem dM_feed_1 : decode cM_feed 1 = .ok (.iconst 0, 1) := by decide +kernel
theorem dM_feed_2 : decode cM_feed 2 = .ok (.putfield 348, 3) := by decide +kernel
theorem dM_feed_5 : decode cM_feed 5 = .ok (.iload_n 3, 1) := by decide +kernel
theorem dM_feed_6 : decode cM_feed 6 = .ok (.iconst 1, 1) := by decide +kernel
theorem dM_feed_7 : decode cM_feed 7 = .ok (.if_icmp .lt (21), 3) := by decide +kernel
theorem dM_feed_10 : decode cM_feed 10 = .ok (.iload_n 3, 1) := by decide +kernel
theorem dM_feed_11 : decode cM_feed 11 = .ok (.bipush 8, 2) := by decide +kernel
theorem dM_feed_13 : decode cM_feed 13 = .ok (.if_icmp .gt (15), 3) := by decide +kernel
theorem dM_feed_16 : decode cM_feed 16 = .ok (.aload_n 0, 1) := by decide +kernel
theorem dM_feed_17 : decode cM_feed 17 = .ok (.getfield 352, 3) := by decide +kernel
theorem dM_feed_20 : decode cM_feed 20 = .ok (.iload_n 3, 1) := by decide +kernel
theorem dM_feed_21 : decode cM_feed 21 = .ok (.iadd, 1) := by decide +kernel
theorem dM_feed_22 : decode cM_feed 22 = .ok (.ldc_w 355, 3) := by decide +kernel
theorem dM_feed_25 : decode cM_feed 25 = .ok (.if_icmp .le (5), 3) := by decide +kernel
theorem dM_feed_28 : decode cM_feed 28 = .ok (.iconst 0, 1) := by decide +kernel
theorem dM_feed_29 : decode cM_feed 29 = .ok (.ireturn, 1) := by decide +kernel
theorem dM_feed_30 : decode cM_feed 30 = .ok (.iconst 0, 1) := by decide +kernel
theorem dM_feed_31 : decode cM_feed 31 = .ok (.istore 4, 2) := by decide +kernel
theorem dM_feed_33 : decode cM_feed 33 = .ok (.iload 4, 2) := by decide +kernel
theorem dM_feed_35 : decode cM_feed 35 = .ok (.iload_n 3, 1) := by decide +kernel
theorem dM_feed_36 : decode cM_feed 36 = .ok (.if_icmp .ge (53), 3) := by decide +kernel
theorem dM_feed_39 : decode cM_feed 39 = .ok (.lload_n 1, 1) := by decide +kernel
theorem dM_feed_40 : decode cM_feed 40 = .ok (.bipush 8, 2) := by decide +kernel
theorem dM_feed_42 : decode cM_feed 42 = .ok (.iload 4, 2) := by decide +kernel
theorem dM_feed_44 : decode cM_feed 44 = .ok (.imul, 1) := by decide +kernel
theorem dM_feed_45 : decode cM_feed 45 = .ok (.lshr, 1) := by decide +kernel
theorem dM_feed_46 : decode cM_feed 46 = .ok (.ldc2_w 356, 3) := by decide +kernel
theorem dM_feed_49 : decode cM_feed 49 = .ok (.land, 1) := by decide +kernel
theorem dM_feed_50 : decode cM_feed 50 = .ok (.l2i, 1) := by decide +kernel
theorem dM_feed_51 : decode cM_feed 51 = .ok (.istore 5, 2) := by decide +kernel
theorem dM_feed_53 : decode cM_feed 53 = .ok (.iload 5, 2) := by decide +kernel
theorem dM_feed_55 : decode cM_feed 55 = .ok (.bipush 9, 2) := by decide +kernel
theorem dM_feed_57 : decode cM_feed 57 = .ok (.if_icmp .eq (26), 3) := by decide +kernel
theorem dM_feed_60 : decode cM_feed 60 = .ok (.iload 5, 2) := by decide +kernel
theorem dM_feed_62 : decode cM_feed 62 = .ok (.bipush 10, 2) := by decide +kernel
theorem dM_feed_64 : decode cM_feed 64 = .ok (.if_icmp .eq (19), 3) := by decide +kernel
theorem dM_feed_67 : decode cM_feed 67 = .ok (.iload 5, 2) := by decide +kernel
theorem dM_feed_69 : decode cM_feed 69 = .ok (.bipush 32, 2) := by decide +kernel
theorem dM_feed_71 : decode cM_feed 71 = .ok (.if_icmp .lt (10), 3) := by decide +kernel
theorem dM_feed_74 : decode cM_feed 74 = .ok (.iload 5, 2) := by decide +kernel
theorem dM_feed_76 : decode cM_feed 76 = .ok (.bipush 126, 2) := by decide +kernel
theorem dM_feed_78 : decode cM_feed 78 = .ok (.if_icmp .le (5), 3) := by decide +kernel
theorem dM_feed_81 : decode cM_feed 81 = .ok (.iconst 0, 1) := by decide +kernel
theorem dM_feed_82 : decode cM_feed 82 = .ok (.ireturn, 1) := by decide +kernel
theorem dM_feed_83 : decode cM_feed 83 = .ok (.iinc 4 (1), 3) := by decide +kernel
theorem dM_feed_86 : decode cM_feed 86 = .ok (.goto (-53), 3) := by decide +kernel
theorem dM_feed_89 : decode cM_feed 89 = .ok (.iload_n 3, 1) := by decide +kernel
theorem dM_feed_90 : decode cM_feed 90 = .ok (.iconst 1, 1) := by decide +kernel
theorem dM_feed_91 : decode cM_feed 91 = .ok (.isub, 1) := by decide +kernel
theorem dM_feed_92 : decode cM_feed 92 = .ok (.istore 4, 2) := by decide +kernel
theorem dM_feed_94 : decode cM_feed 94 = .ok (.iload 4, 2) := by decide +kernel
theorem dM_feed_96 : decode cM_feed 96 = .ok (.ifCond .lt (41), 3) := by decide +kernel
theorem dM_feed_99 : decode cM_feed 99 = .ok (.aload_n 0, 1) := by decide +kernel
theorem dM_feed_100 : decode cM_feed 100 = .ok (.getfield 323, 3) := by decide +kernel
theorem dM_feed_103 : decode cM_feed 103 = .ok (.aload_n 0, 1) := by decide +kernel
theorem dM_feed_104 : decode cM_feed 104 = .ok (.getfield 352, 3) := by decide +kernel
theorem dM_feed_107 : decode cM_feed 107 = .ok (.lload_n 1, 1) := by decide +kernel
theorem dM_feed_108 : decode cM_feed 108 = .ok (.bipush 8, 2) := by decide +kernel
theorem dM_feed_110 : decode cM_feed 110 = .ok (.iload 4, 2) := by decide +kernel
theorem dM_feed_112 : decode cM_feed 112 = .ok (.imul, 1) := by decide +kernel
theorem dM_feed_113 : decode cM_feed 113 = .ok (.lshr, 1) := by decide +kernel
theorem dM_feed_114 : decode cM_feed 114 = .ok (.ldc2_w 356, 3) := by decide +kernel
theorem dM_feed_117 : decode cM_feed 117 = .ok (.land, 1) := by decide +kernel
theorem dM_feed_118 : decode cM_feed 118 = .ok (.l2i, 1) := by decide +kernel
theorem dM_feed_119 : decode cM_feed 119 = .ok (.i2c, 1) := by decide +kernel
theorem dM_feed_120 : decode cM_feed 120 = .ok (.castore, 1) := by decide +kernel
theorem dM_feed_121 : decode cM_feed 121 = .ok (.aload_n 0, 1) := by decide +kernel
theorem dM_feed_122 : decode cM_feed 122 = .ok (.dup, 1) := by decide +kernel
theorem dM_feed_123 : decode cM_feed 123 = .ok (.getfield 352, 3) := by decide +kernel
theorem dM_feed_126 : decode cM_feed 126 = .ok (.iconst 1, 1) := by decide +kernel
theorem dM_feed_127 : decode cM_feed 127 = .ok (.iadd, 1) := by decide +kernel
theorem dM_feed_128 : decode cM_feed 128 = .ok (.putfield 352, 3) := by decide +kernel
theorem dM_feed_131 : decode cM_feed 131 = .ok (.iinc 4 (-1), 3) := by decide +kernel
theorem dM_feed_134 : decode cM_feed 134 = .ok (.goto (-40), 3) := by decide +kernel
theorem dM_feed_137 : decode cM_feed 137 = .ok (.iconst 1, 1) := by decide +kernel
theorem dM_feed_138 : decode cM_feed 138 = .ok (.ireturn, 1) := by decide +kernel
abbrev cM_clear : ByteArray := prog_14_method_4_code
def yM_clear : MethodName := ⟨RM, "clear", "()I"⟩
abbrev rm_clear : Room := { frames := 0, cells := 0, slots := 0, locals := 0 }
theorem dM_clear_0 : decode cM_clear 0 = .ok (.aload_n 0, 1) := by decide +kernel
theorem dM_clear_1 : decode cM_clear 1 = .ok (.iconst 0, 1) := by decide +kernel
theorem dM_clear_2 : decode cM_clear 2 = .ok (.putfield 348, 3) := by decide +kernel
theorem dM_clear_5 : decode cM_clear 5 = .ok (.aload_n 0, 1) := by decide +kernel
theorem dM_clear_6 : decode cM_clear 6 = .ok (.getfield 352, 3) := by decide +kernel
theorem dM_clear_9 : decode cM_clear 9 = .ok (.istore_n 1, 1) := by decide +kernel
theorem dM_clear_10 : decode cM_clear 10 = .ok (.aload_n 0, 1) := by decide +kernel
theorem dM_clear_11 : decode cM_clear 11 = .ok (.iconst 0, 1) := by decide +kernel
theorem dM_clear_12 : decode cM_clear 12 = .ok (.putfield 352, 3) := by decide +kernel
theorem dM_clear_15 : decode cM_clear 15 = .ok (.iload_n 1, 1) := by decide +kernel
theorem dM_clear_16 : decode cM_clear 16 = .ok (.ireturn, 1) := by decide +kernel
abbrev cM_base : ByteArray := prog_14_method_25_code
def yM_base : MethodName := ⟨RM, "base", "()I"⟩
abbrev rm_base : Room := { frames := 0, cells := 0, slots := 0, locals := 0 }
theorem dM_base_0 : decode cM_base 0 = .ok (.aload_n 0, 1) := by decide +kernel
theorem dM_base_1 : decode cM_base 1 = .ok (.getfield 456, 3) := by decide +kernel
theorem dM_base_4 : decode cM_base 4 = .ok (.sipush 1023, 3) := by decide +kernel
theorem dM_base_7 : decode cM_base 7 = .ok (.iadd, 1) := by decide +kernel
theorem dM_base_8 : decode cM_base 8 = .ok (.sipush 1024, 3) := by decide +kernel
theorem dM_base_11 : decode cM_base 11 = .ok (.idiv, 1) := by decide +kernel
theorem dM_base_12 : decode cM_base 12 = .ok (.sipush 1024, 3) := by decide +kernel
theorem dM_base_15 : decode cM_base 15 = .ok (.imul, 1) := by decide +kernel
theorem dM_base_16 : decode cM_base 16 = .ok (.ireturn, 1) := by decide +kernel
abbrev cM_sectionOf : ByteArray := prog_14_method_78_code
def yM_sectionOf : MethodName := ⟨RM, "sectionOf", "(I)I"⟩
abbrev rm_sectionOf : Room := { frames := 0, cells := 0, slots := 0, locals := 0 }
theorem dM_sectionOf_0 : decode cM_sectionOf 0 = .ok (.aload_n 0, 1) := by decide +kernel
theorem dM_sectionOf_1 : decode cM_sectionOf 1 = .ok (.getfield 330, 3) := by decide +kernel
theorem dM_sectionOf_4 : decode cM_sectionOf 4 = .ok (.iload_n 1, 1) := by decide +kernel
theorem dM_sectionOf_5 : decode cM_sectionOf 5 = .ok (.iaload, 1) := by decide +kernel
theorem dM_sectionOf_6 : decode cM_sectionOf 6 = .ok (.bipush 15, 2) := by decide +kernel
theorem dM_sectionOf_8 : decode cM_sectionOf 8 = .ok (.ishr, 1) := by decide +kernel
theorem dM_sectionOf_9 : decode cM_sectionOf 9 = .ok (.iconst 1, 1) := by decide +kernel
theorem dM_sectionOf_10 : decode cM_sectionOf 10 = .ok (.iand, 1) := by decide +kernel
theorem dM_sectionOf_11 : decode cM_sectionOf 11 = .ok (.ireturn, 1) := by decide +kernel
abbrev cM_addressOf : ByteArray := prog_14_method_80_code
def yM_addressOf : MethodName := ⟨RM, "addressOf", "(I)I"⟩
abbrev rm_addressOf : Room := { frames := 1, cells := 0, slots := 0, locals := 21 }
theorem dM_addressOf_0 : decode cM_addressOf 0 = .ok (.aload_n 0, 1) := by decide +kernel
theorem dM_addressOf_1 : decode cM_addressOf 1 = .ok (.getfield 333, 3) := by decide +kernel
theorem dM_addressOf_4 : decode cM_addressOf 4 = .ok (.iload_n 1, 1) := by decide +kernel
theorem dM_addressOf_5 : decode cM_addressOf 5 = .ok (.iaload, 1) := by decide +kernel
theorem dM_addressOf_6 : decode cM_addressOf 6 = .ok (.aload_n 0, 1) := by decide +kernel
theorem dM_addressOf_7 : decode cM_addressOf 7 = .ok (.iload_n 1, 1) := by decide +kernel
theorem dM_addressOf_8 : decode cM_addressOf 8 = .ok (.invokevirtual 694, 3) := by decide +kernel
theorem dM_addressOf_11 : decode cM_addressOf 11 = .ok (.iconst 1, 1) := by decide +kernel
theorem dM_addressOf_12 : decode cM_addressOf 12 = .ok (.if_icmp .ne (10), 3) := by decide +kernel
theorem dM_addressOf_15 : decode cM_addressOf 15 = .ok (.aload_n 0, 1) := by decide +kernel
theorem dM_addressOf_16 : decode cM_addressOf 16 = .ok (.invokevirtual 459, 3) := by decide +kernel
theorem dM_addressOf_19 : decode cM_addressOf 19 = .ok (.goto (4), 3) := by decide +kernel
theorem dM_addressOf_22 : decode cM_addressOf 22 = .ok (.iconst 0, 1) := by decide +kernel
theorem dM_addressOf_23 : decode cM_addressOf 23 = .ok (.iadd, 1) := by decide +kernel
theorem dM_addressOf_24 : decode cM_addressOf 24 = .ok (.ireturn, 1) := by decide +kernel
abbrev cM_blame : ByteArray := prog_14_method_18_code
def yM_blame : MethodName := ⟨RM, "blame", "(I)V"⟩
abbrev rm_blame : Room := { frames := 0, cells := 0, slots := 0, locals := 0 }
theorem dM_blame_0 : decode cM_blame 0 = .ok (.aload_n 0, 1) := by decide +kernel
theorem dM_blame_1 : decode cM_blame 1 = .ok (.getfield 420, 3) := by decide +kernel
theorem dM_blame_4 : decode cM_blame 4 = .ok (.ifCond .ne (16), 3) := by decide +kernel
theorem dM_blame_7 : decode cM_blame 7 = .ok (.aload_n 0, 1) := by decide +kernel
theorem dM_blame_8 : decode cM_blame 8 = .ok (.iload_n 1, 1) := by decide +kernel
theorem dM_blame_9 : decode cM_blame 9 = .ok (.bipush 16, 2) := by decide +kernel
theorem dM_blame_11 : decode cM_blame 11 = .ok (.aload_n 0, 1) := by decide +kernel
theorem dM_blame_12 : decode cM_blame 12 = .ok (.getfield 423, 3) := by decide +kernel
theorem dM_blame_15 : decode cM_blame 15 = .ok (.imul, 1) := by decide +kernel
theorem dM_blame_16 : decode cM_blame 16 = .ok (.iadd, 1) := by decide +kernel
theorem dM_blame_17 : decode cM_blame 17 = .ok (.putfield 420, 3) := by decide +kernel
theorem dM_blame_20 : decode cM_blame 20 = .ok (.return_, 1) := by decide +kernel
abbrev cM_bad : ByteArray := prog_14_method_10_code
def yM_bad : MethodName := ⟨RM, "bad", "()V"⟩
abbrev rm_bad : Room := { frames := 0, cells := 0, slots := 0, locals := 0 }
theorem dM_bad_0 : decode cM_bad 0 = .ok (.aload_n 0, 1) := by decide +kernel
theorem dM_bad_1 : decode cM_bad 1 = .ok (.iconst 5, 1) := by decide +kernel
theorem dM_bad_2 : decode cM_bad 2 = .ok (.putfield 375, 3) := by decide +kernel
theorem dM_bad_5 : decode cM_bad 5 = .ok (.aload_n 0, 1) := by decide +kernel
theorem dM_bad_6 : decode cM_bad 6 = .ok (.aload_n 0, 1) := by decide +kernel
theorem dM_bad_7 : decode cM_bad 7 = .ok (.getfield 378, 3) := by decide +kernel
theorem dM_bad_10 : decode cM_bad 10 = .ok (.putfield 381, 3) := by decide +kernel
theorem dM_bad_13 : decode cM_bad 13 = .ok (.return_, 1) := by decide +kernel
abbrev cM_charAt : ByteArray := prog_14_method_5_code
def yM_charAt : MethodName := ⟨RM, "charAt", "(I)I"⟩
abbrev rm_charAt : Room := { frames := 0, cells := 0, slots := 0, locals := 0 }
theorem dM_charAt_0 : decode cM_charAt 0 = .ok (.iload_n 1, 1) := by decide +kernel
theorem dM_charAt_1 : decode cM_charAt 1 = .ok (.aload_n 0, 1) := by decide +kernel
theorem dM_charAt_2 : decode cM_charAt 2 = .ok (.getfield 358, 3) := by decide +kernel
theorem dM_charAt_5 : decode cM_charAt 5 = .ok (.if_icmp .ge (12), 3) := by decide +kernel
theorem dM_charAt_8 : decode cM_charAt 8 = .ok (.aload_n 0, 1) := by decide +kernel
theorem dM_charAt_9 : decode cM_charAt 9 = .ok (.getfield 327, 3) := by decide +kernel
theorem dM_charAt_12 : decode cM_charAt 12 = .ok (.iload_n 1, 1) := by decide +kernel
theorem dM_charAt_13 : decode cM_charAt 13 = .ok (.caload, 1) := by decide +kernel
theorem dM_charAt_14 : decode cM_charAt 14 = .ok (.goto (5), 3) := by decide +kernel
theorem dM_charAt_17 : decode cM_charAt 17 = .ok (.bipush 10, 2) := by decide +kernel
theorem dM_charAt_19 : decode cM_charAt 19 = .ok (.ireturn, 1) := by decide +kernel
abbrev cM_isDigit : ByteArray := prog_14_method_6_code
def yM_isDigit : MethodName := ⟨RM, "isDigit", "(I)Z"⟩
abbrev rm_isDigit : Room := { frames := 0, cells := 0, slots := 0, locals := 0 }
theorem dM_isDigit_0 : decode cM_isDigit 0 = .ok (.iload_n 0, 1) := by decide +kernel
theorem dM_isDigit_1 : decode cM_isDigit 1 = .ok (.bipush 48, 2) := by decide +kernel
theorem dM_isDigit_3 : decode cM_isDigit 3 = .ok (.if_icmp .lt (13), 3) := by decide +kernel
theorem dM_isDigit_6 : decode cM_isDigit 6 = .ok (.iload_n 0, 1) := by decide +kernel
theorem dM_isDigit_7 : decode cM_isDigit 7 = .ok (.bipush 57, 2) := by decide +kernel
theorem dM_isDigit_9 : decode cM_isDigit 9 = .ok (.if_icmp .gt (7), 3) := by decide +kernel
theorem dM_isDigit_12 : decode cM_isDigit 12 = .ok (.iconst 1, 1) := by decide +kernel
theorem dM_isDigit_13 : decode cM_isDigit 13 = .ok (.goto (4), 3) := by decide +kernel
theorem dM_isDigit_16 : decode cM_isDigit 16 = .ok (.iconst 0, 1) := by decide +kernel
theorem dM_isDigit_17 : decode cM_isDigit 17 = .ok (.ireturn, 1) := by decide +kernel
abbrev cM_isLetter : ByteArray := prog_14_method_7_code
def yM_isLetter : MethodName := ⟨RM, "isLetter", "(I)Z"⟩
abbrev rm_isLetter : Room := { frames := 0, cells := 0, slots := 0, locals := 0 }
theorem dM_isLetter_0 : decode cM_isLetter 0 = .ok (.iload_n 0, 1) := by decide +kernel
theorem dM_isLetter_1 : decode cM_isLetter 1 = .ok (.bipush 97, 2) := by decide +kernel
theorem dM_isLetter_3 : decode cM_isLetter 3 = .ok (.if_icmp .lt (9), 3) := by decide +kernel
theorem dM_isLetter_6 : decode cM_isLetter 6 = .ok (.iload_n 0, 1) := by decide +kernel
theorem dM_isLetter_7 : decode cM_isLetter 7 = .ok (.bipush 122, 2) := by decide +kernel
theorem dM_isLetter_9 : decode cM_isLetter 9 = .ok (.if_icmp .le (15), 3) := by decide +kernel
theorem dM_isLetter_12 : decode cM_isLetter 12 = .ok (.iload_n 0, 1) := by decide +kernel
theorem dM_isLetter_13 : decode cM_isLetter 13 = .ok (.bipush 65, 2) := by decide +kernel
theorem dM_isLetter_15 : decode cM_isLetter 15 = .ok (.if_icmp .lt (13), 3) := by decide +kernel
theorem dM_isLetter_18 : decode cM_isLetter 18 = .ok (.iload_n 0, 1) := by decide +kernel
theorem dM_isLetter_19 : decode cM_isLetter 19 = .ok (.bipush 90, 2) := by decide +kernel
theorem dM_isLetter_21 : decode cM_isLetter 21 = .ok (.if_icmp .gt (7), 3) := by decide +kernel
theorem dM_isLetter_24 : decode cM_isLetter 24 = .ok (.iconst 1, 1) := by decide +kernel
theorem dM_isLetter_25 : decode cM_isLetter 25 = .ok (.goto (4), 3) := by decide +kernel
theorem dM_isLetter_28 : decode cM_isLetter 28 = .ok (.iconst 0, 1) := by decide +kernel
theorem dM_isLetter_29 : decode cM_isLetter 29 = .ok (.ireturn, 1) := by decide +kernel
abbrev cM_isPlain : ByteArray := prog_14_method_8_code
def yM_isPlain : MethodName := ⟨RM, "isPlain", "(I)Z"⟩
abbrev rm_isPlain : Room := { frames := 1, cells := 0, slots := 0, locals := 20 }
theorem dM_isPlain_0 : decode cM_isPlain 0 = .ok (.iload_n 0, 1) := by decide +kernel
theorem dM_isPlain_1 : decode cM_isPlain 1 = .ok (.invokestatic 361, 3) := by decide +kernel
theorem dM_isPlain_4 : decode cM_isPlain 4 = .ok (.ifCond .ne (28), 3) := by decide +kernel
theorem dM_isPlain_7 : decode cM_isPlain 7 = .ok (.iload_n 0, 1) := by decide +kernel
theorem dM_isPlain_8 : decode cM_isPlain 8 = .ok (.invokestatic 365, 3) := by decide +kernel
theorem dM_isPlain_11 : decode cM_isPlain 11 = .ok (.ifCond .ne (21), 3) := by decide +kernel
theorem dM_isPlain_14 : decode cM_isPlain 14 = .ok (.iload_n 0, 1) := by decide +kernel
theorem dM_isPlain_15 : decode cM_isPlain 15 = .ok (.bipush 95, 2) := by decide +kernel
theorem dM_isPlain_17 : decode cM_isPlain 17 = .ok (.if_icmp .eq (15), 3) := by decide +kernel
theorem dM_isPlain_20 : decode cM_isPlain 20 = .ok (.iload_n 0, 1) := by decide +kernel
theorem dM_isPlain_21 : decode cM_isPlain 21 = .ok (.bipush 46, 2) := by decide +kernel
theorem dM_isPlain_23 : decode cM_isPlain 23 = .ok (.if_icmp .eq (9), 3) := by decide +kernel
theorem dM_isPlain_26 : decode cM_isPlain 26 = .ok (.iload_n 0, 1) := by decide +kernel
theorem dM_isPlain_27 : decode cM_isPlain 27 = .ok (.bipush 36, 2) := by decide +kernel
theorem dM_isPlain_29 : decode cM_isPlain 29 = .ok (.if_icmp .ne (7), 3) := by decide +kernel
theorem dM_isPlain_32 : decode cM_isPlain 32 = .ok (.iconst 1, 1) := by decide +kernel
theorem dM_isPlain_33 : decode cM_isPlain 33 = .ok (.goto (4), 3) := by decide +kernel
theorem dM_isPlain_36 : decode cM_isPlain 36 = .ok (.iconst 0, 1) := by decide +kernel
theorem dM_isPlain_37 : decode cM_isPlain 37 = .ok (.ireturn, 1) := by decide +kernel
abbrev cM_shown : ByteArray := prog_14_method_15_code
def yM_shown : MethodName := ⟨RM, "shown", "(II)I"⟩
abbrev rm_shown : Room := { frames := 1, cells := 0, slots := 0, locals := 21 }
theorem dM_shown_0 : decode cM_shown 0 = .ok (.aload_n 0, 1) := by decide +kernel
theorem dM_shown_1 : decode cM_shown 1 = .ok (.iload_n 1, 1) := by decide +kernel
theorem dM_shown_2 : decode cM_shown 2 = .ok (.invokevirtual 368, 3) := by decide +kernel
theorem dM_shown_5 : decode cM_shown 5 = .ok (.istore_n 3, 1) := by decide +kernel
theorem dM_shown_6 : decode cM_shown 6 = .ok (.aload_n 0, 1) := by decide +kernel
theorem dM_shown_7 : decode cM_shown 7 = .ok (.iload_n 1, 1) := by decide +kernel
theorem dM_shown_8 : decode cM_shown 8 = .ok (.iconst 1, 1) := by decide +kernel
theorem dM_shown_9 : decode cM_shown 9 = .ok (.iadd, 1) := by decide +kernel
theorem dM_shown_10 : decode cM_shown 10 = .ok (.putfield 381, 3) := by decide +kernel
theorem dM_shown_13 : decode cM_shown 13 = .ok (.iload_n 3, 1) := by decide +kernel
theorem dM_shown_14 : decode cM_shown 14 = .ok (.bipush 10, 2) := by decide +kernel
theorem dM_shown_16 : decode cM_shown 16 = .ok (.if_icmp .eq (8), 3) := by decide +kernel
theorem dM_shown_19 : decode cM_shown 19 = .ok (.iload_n 3, 1) := by decide +kernel
theorem dM_shown_20 : decode cM_shown 20 = .ok (.iload_n 2, 1) := by decide +kernel
theorem dM_shown_21 : decode cM_shown 21 = .ok (.if_icmp .ne (5), 3) := by decide +kernel
theorem dM_shown_24 : decode cM_shown 24 = .ok (.iconst (-1), 1) := by decide +kernel
theorem dM_shown_25 : decode cM_shown 25 = .ok (.ireturn, 1) := by decide +kernel
theorem dM_shown_26 : decode cM_shown 26 = .ok (.iload_n 3, 1) := by decide +kernel
theorem dM_shown_27 : decode cM_shown 27 = .ok (.bipush 92, 2) := by decide +kernel
theorem dM_shown_29 : decode cM_shown 29 = .ok (.if_icmp .eq (5), 3) := by decide +kernel
theorem dM_shown_32 : decode cM_shown 32 = .ok (.iload_n 3, 1) := by decide +kernel
theorem dM_shown_33 : decode cM_shown 33 = .ok (.ireturn, 1) := by decide +kernel
theorem dM_shown_34 : decode cM_shown 34 = .ok (.aload_n 0, 1) := by decide +kernel
theorem dM_shown_35 : decode cM_shown 35 = .ok (.iload_n 1, 1) := by decide +kernel
theorem dM_shown_36 : decode cM_shown 36 = .ok (.iconst 1, 1) := by decide +kernel
theorem dM_shown_37 : decode cM_shown 37 = .ok (.iadd, 1) := by decide +kernel
theorem dM_shown_38 : decode cM_shown 38 = .ok (.invokevirtual 368, 3) := by decide +kernel
theorem dM_shown_41 : decode cM_shown 41 = .ok (.istore 4, 2) := by decide +kernel
theorem dM_shown_43 : decode cM_shown 43 = .ok (.aload_n 0, 1) := by decide +kernel
theorem dM_shown_44 : decode cM_shown 44 = .ok (.iload_n 1, 1) := by decide +kernel
theorem dM_shown_45 : decode cM_shown 45 = .ok (.iconst 2, 1) := by decide +kernel
theorem dM_shown_46 : decode cM_shown 46 = .ok (.iadd, 1) := by decide +kernel
theorem dM_shown_47 : decode cM_shown 47 = .ok (.putfield 381, 3) := by decide +kernel
theorem dM_shown_50 : decode cM_shown 50 = .ok (.iload 4, 2) := by decide +kernel
theorem dM_shown_52 : decode cM_shown 52 = .ok (.bipush 110, 2) := by decide +kernel
theorem dM_shown_54 : decode cM_shown 54 = .ok (.if_icmp .ne (8), 3) := by decide +kernel
theorem dM_shown_57 : decode cM_shown 57 = .ok (.bipush 10, 2) := by decide +kernel
theorem dM_shown_59 : decode cM_shown 59 = .ok (.goto (53), 3) := by decide +kernel
theorem dM_shown_62 : decode cM_shown 62 = .ok (.iload 4, 2) := by decide +kernel
theorem dM_shown_64 : decode cM_shown 64 = .ok (.bipush 116, 2) := by decide +kernel
theorem dM_shown_66 : decode cM_shown 66 = .ok (.if_icmp .ne (8), 3) := by decide +kernel
theorem dM_shown_69 : decode cM_shown 69 = .ok (.bipush 9, 2) := by decide +kernel
theorem dM_shown_71 : decode cM_shown 71 = .ok (.goto (41), 3) := by decide +kernel
theorem dM_shown_74 : decode cM_shown 74 = .ok (.iload 4, 2) := by decide +kernel
theorem dM_shown_76 : decode cM_shown 76 = .ok (.bipush 48, 2) := by decide +kernel
theorem dM_shown_78 : decode cM_shown 78 = .ok (.if_icmp .ne (7), 3) := by decide +kernel
theorem dM_shown_81 : decode cM_shown 81 = .ok (.iconst 0, 1) := by decide +kernel
theorem dM_shown_82 : decode cM_shown 82 = .ok (.goto (30), 3) := by decide +kernel
theorem dM_shown_85 : decode cM_shown 85 = .ok (.iload 4, 2) := by decide +kernel
theorem dM_shown_87 : decode cM_shown 87 = .ok (.bipush 92, 2) := by decide +kernel
theorem dM_shown_89 : decode cM_shown 89 = .ok (.if_icmp .eq (17), 3) := by decide +kernel
theorem dM_shown_92 : decode cM_shown 92 = .ok (.iload 4, 2) := by decide +kernel
theorem dM_shown_94 : decode cM_shown 94 = .ok (.bipush 39, 2) := by decide +kernel
theorem dM_shown_96 : decode cM_shown 96 = .ok (.if_icmp .eq (10), 3) := by decide +kernel
theorem dM_shown_99 : decode cM_shown 99 = .ok (.iload 4, 2) := by decide +kernel
theorem dM_shown_101 : decode cM_shown 101 = .ok (.bipush 34, 2) := by decide +kernel
theorem dM_shown_103 : decode cM_shown 103 = .ok (.if_icmp .ne (8), 3) := by decide +kernel
theorem dM_shown_106 : decode cM_shown 106 = .ok (.iload 4, 2) := by decide +kernel
theorem dM_shown_108 : decode cM_shown 108 = .ok (.goto (4), 3) := by decide +kernel
theorem dM_shown_111 : decode cM_shown 111 = .ok (.iconst (-1), 1) := by decide +kernel
theorem dM_shown_112 : decode cM_shown 112 = .ok (.ireturn, 1) := by decide +kernel
abbrev cM_character : ByteArray := prog_14_method_16_code
def yM_character : MethodName := ⟨RM, "character", "()V"⟩
abbrev rm_character : Room := { frames := 2, cells := 0, slots := 0, locals := 45 }
theorem dM_character_0 : decode cM_character 0 = .ok (.aload_n 0, 1) := by decide +kernel
theorem dM_character_1 : decode cM_character 1 = .ok (.aload_n 0, 1) := by decide +kernel
theorem dM_character_2 : decode cM_character 2 = .ok (.aload_n 0, 1) := by decide +kernel
theorem dM_character_3 : decode cM_character 3 = .ok (.getfield 384, 3) := by decide +kernel
theorem dM_character_6 : decode cM_character 6 = .ok (.iconst 1, 1) := by decide +kernel
theorem dM_character_7 : decode cM_character 7 = .ok (.iadd, 1) := by decide +kernel
theorem dM_character_8 : decode cM_character 8 = .ok (.bipush 39, 2) := by decide +kernel
theorem dM_character_10 : decode cM_character 10 = .ok (.invokevirtual 416, 3) := by decide +kernel
theorem dM_character_13 : decode cM_character 13 = .ok (.putfield 409, 3) := by decide +kernel
theorem dM_character_16 : decode cM_character 16 = .ok (.aload_n 0, 1) := by decide +kernel
theorem dM_character_17 : decode cM_character 17 = .ok (.iconst 2, 1) := by decide +kernel
theorem dM_character_18 : decode cM_character 18 = .ok (.putfield 375, 3) := by decide +kernel
theorem dM_character_21 : decode cM_character 21 = .ok (.aload_n 0, 1) := by decide +kernel
theorem dM_character_22 : decode cM_character 22 = .ok (.getfield 409, 3) := by decide +kernel
theorem dM_character_25 : decode cM_character 25 = .ok (.ifCond .lt (20), 3) := by decide +kernel
theorem dM_character_28 : decode cM_character 28 = .ok (.aload_n 0, 1) := by decide +kernel
theorem dM_character_29 : decode cM_character 29 = .ok (.aload_n 0, 1) := by decide +kernel
theorem dM_character_30 : decode cM_character 30 = .ok (.getfield 381, 3) := by decide +kernel
theorem dM_character_33 : decode cM_character 33 = .ok (.invokevirtual 368, 3) := by decide +kernel
theorem dM_character_36 : decode cM_character 36 = .ok (.bipush 39, 2) := by decide +kernel
theorem dM_character_38 : decode cM_character 38 = .ok (.if_icmp .ne (7), 3) := by decide +kernel
theorem dM_character_41 : decode cM_character 41 = .ok (.iconst 1, 1) := by decide +kernel
theorem dM_character_42 : decode cM_character 42 = .ok (.goto (4), 3) := by decide +kernel
theorem dM_character_45 : decode cM_character 45 = .ok (.iconst 0, 1) := by decide +kernel
theorem dM_character_46 : decode cM_character 46 = .ok (.istore_n 1, 1) := by decide +kernel
theorem dM_character_47 : decode cM_character 47 = .ok (.aload_n 0, 1) := by decide +kernel
theorem dM_character_48 : decode cM_character 48 = .ok (.dup, 1) := by decide +kernel
theorem dM_character_49 : decode cM_character 49 = .ok (.getfield 381, 3) := by decide +kernel
theorem dM_character_52 : decode cM_character 52 = .ok (.iconst 1, 1) := by decide +kernel
theorem dM_character_53 : decode cM_character 53 = .ok (.iadd, 1) := by decide +kernel
theorem dM_character_54 : decode cM_character 54 = .ok (.putfield 381, 3) := by decide +kernel
theorem dM_character_57 : decode cM_character 57 = .ok (.iload_n 1, 1) := by decide +kernel
theorem dM_character_58 : decode cM_character 58 = .ok (.ifCond .eq (17), 3) := by decide +kernel
theorem dM_character_61 : decode cM_character 61 = .ok (.aload_n 0, 1) := by decide +kernel
theorem dM_character_62 : decode cM_character 62 = .ok (.aload_n 0, 1) := by decide +kernel
theorem dM_character_63 : decode cM_character 63 = .ok (.getfield 381, 3) := by decide +kernel
theorem dM_character_66 : decode cM_character 66 = .ok (.invokevirtual 368, 3) := by decide +kernel
theorem dM_character_69 : decode cM_character 69 = .ok (.invokestatic 372, 3) := by decide +kernel
theorem dM_character_72 : decode cM_character 72 = .ok (.ifCond .eq (7), 3) := by decide +kernel
theorem dM_character_75 : decode cM_character 75 = .ok (.aload_n 0, 1) := by decide +kernel
theorem dM_character_76 : decode cM_character 76 = .ok (.invokevirtual 393, 3) := by decide +kernel
theorem dM_character_79 : decode cM_character 79 = .ok (.return_, 1) := by decide +kernel
abbrev cM_worth : ByteArray := prog_14_method_12_code
def yM_worth : MethodName := ⟨RM, "worth", "(I)I"⟩
abbrev rm_worth : Room := { frames := 1, cells := 0, slots := 0, locals := 20 }
theorem dM_worth_0 : decode cM_worth 0 = .ok (.iload_n 0, 1) := by decide +kernel
theorem dM_worth_1 : decode cM_worth 1 = .ok (.invokestatic 361, 3) := by decide +kernel
theorem dM_worth_4 : decode cM_worth 4 = .ok (.ifCond .eq (10), 3) := by decide +kernel
theorem dM_worth_7 : decode cM_worth 7 = .ok (.iload_n 0, 1) := by decide +kernel
theorem dM_worth_8 : decode cM_worth 8 = .ok (.bipush 48, 2) := by decide +kernel
theorem dM_worth_10 : decode cM_worth 10 = .ok (.isub, 1) := by decide +kernel
theorem dM_worth_11 : decode cM_worth 11 = .ok (.goto (49), 3) := by decide +kernel
theorem dM_worth_14 : decode cM_worth 14 = .ok (.iload_n 0, 1) := by decide +kernel
theorem dM_worth_15 : decode cM_worth 15 = .ok (.bipush 97, 2) := by decide +kernel
theorem dM_worth_17 : decode cM_worth 17 = .ok (.if_icmp .lt (19), 3) := by decide +kernel
theorem dM_worth_20 : decode cM_worth 20 = .ok (.iload_n 0, 1) := by decide +kernel
theorem dM_worth_21 : decode cM_worth 21 = .ok (.bipush 102, 2) := by decide +kernel
theorem dM_worth_23 : decode cM_worth 23 = .ok (.if_icmp .gt (13), 3) := by decide +kernel
theorem dM_worth_26 : decode cM_worth 26 = .ok (.iload_n 0, 1) := by decide +kernel
theorem dM_worth_27 : decode cM_worth 27 = .ok (.bipush 97, 2) := by decide +kernel
theorem dM_worth_29 : decode cM_worth 29 = .ok (.isub, 1) := by decide +kernel
theorem dM_worth_30 : decode cM_worth 30 = .ok (.bipush 10, 2) := by decide +kernel
theorem dM_worth_32 : decode cM_worth 32 = .ok (.iadd, 1) := by decide +kernel
theorem dM_worth_33 : decode cM_worth 33 = .ok (.goto (27), 3) := by decide +kernel
theorem dM_worth_36 : decode cM_worth 36 = .ok (.iload_n 0, 1) := by decide +kernel
theorem dM_worth_37 : decode cM_worth 37 = .ok (.bipush 65, 2) := by decide +kernel
theorem dM_worth_39 : decode cM_worth 39 = .ok (.if_icmp .lt (19), 3) := by decide +kernel
theorem dM_worth_42 : decode cM_worth 42 = .ok (.iload_n 0, 1) := by decide +kernel
theorem dM_worth_43 : decode cM_worth 43 = .ok (.bipush 70, 2) := by decide +kernel
theorem dM_worth_45 : decode cM_worth 45 = .ok (.if_icmp .gt (13), 3) := by decide +kernel
theorem dM_worth_48 : decode cM_worth 48 = .ok (.iload_n 0, 1) := by decide +kernel
theorem dM_worth_49 : decode cM_worth 49 = .ok (.bipush 65, 2) := by decide +kernel
theorem dM_worth_51 : decode cM_worth 51 = .ok (.isub, 1) := by decide +kernel
theorem dM_worth_52 : decode cM_worth 52 = .ok (.bipush 10, 2) := by decide +kernel
theorem dM_worth_54 : decode cM_worth 54 = .ok (.iadd, 1) := by decide +kernel
theorem dM_worth_55 : decode cM_worth 55 = .ok (.goto (5), 3) := by decide +kernel
theorem dM_worth_58 : decode cM_worth 58 = .ok (.bipush 99, 2) := by decide +kernel
theorem dM_worth_60 : decode cM_worth 60 = .ok (.ireturn, 1) := by decide +kernel
abbrev cM_numeral : ByteArray := prog_14_method_13_code
def yM_numeral : MethodName := ⟨RM, "numeral", "(III)J"⟩
abbrev rm_numeral : Room := { frames := 2, cells := 0, slots := 0, locals := 40 }
theorem dM_numeral_0 : decode cM_numeral 0 = .ok (.iload_n 1, 1) := by decide +kernel
theorem dM_numeral_1 : decode cM_numeral 1 = .ok (.iload_n 2, 1) := by decide +kernel
theorem dM_numeral_2 : decode cM_numeral 2 = .ok (.if_icmp .ge (7), 3) := by decide +kernel
theorem dM_numeral_5 : decode cM_numeral 5 = .ok (.lconst 0, 1) := by decide +kernel
theorem dM_numeral_6 : decode cM_numeral 6 = .ok (.goto (6), 3) := by decide +kernel
theorem dM_numeral_9 : decode cM_numeral 9 = .ok (.ldc2_w 402, 3) := by decide +kernel
theorem dM_numeral_12 : decode cM_numeral 12 = .ok (.lstore 4, 2) := by decide +kernel
theorem dM_numeral_14 : decode cM_numeral 14 = .ok (.iload_n 1, 1) := by decide +kernel
theorem dM_numeral_15 : decode cM_numeral 15 = .ok (.istore 6, 2) := by decide +kernel
theorem dM_numeral_17 : decode cM_numeral 17 = .ok (.iload 6, 2) := by decide +kernel
theorem dM_numeral_19 : decode cM_numeral 19 = .ok (.iload_n 2, 1) := by decide +kernel
theorem dM_numeral_20 : decode cM_numeral 20 = .ok (.if_icmp .ge (70), 3) := by decide +kernel
theorem dM_numeral_23 : decode cM_numeral 23 = .ok (.lload 4, 2) := by decide +kernel
theorem dM_numeral_25 : decode cM_numeral 25 = .ok (.lconst 0, 1) := by decide +kernel
theorem dM_numeral_26 : decode cM_numeral 26 = .ok (.lcmp, 1) := by decide +kernel
theorem dM_numeral_27 : decode cM_numeral 27 = .ok (.ifCond .lt (63), 3) := by decide +kernel
theorem dM_numeral_30 : decode cM_numeral 30 = .ok (.aload_n 0, 1) := by decide +kernel
theorem dM_numeral_31 : decode cM_numeral 31 = .ok (.getfield 327, 3) := by decide +kernel
theorem dM_numeral_34 : decode cM_numeral 34 = .ok (.iload 6, 2) := by decide +kernel
theorem dM_numeral_36 : decode cM_numeral 36 = .ok (.caload, 1) := by decide +kernel
theorem dM_numeral_37 : decode cM_numeral 37 = .ok (.invokestatic 404, 3) := by decide +kernel
theorem dM_numeral_40 : decode cM_numeral 40 = .ok (.istore 7, 2) := by decide +kernel
theorem dM_numeral_42 : decode cM_numeral 42 = .ok (.iload 7, 2) := by decide +kernel
theorem dM_numeral_44 : decode cM_numeral 44 = .ok (.iload_n 3, 1) := by decide +kernel
theorem dM_numeral_45 : decode cM_numeral 45 = .ok (.if_icmp .ge (15), 3) := by decide +kernel
theorem dM_numeral_48 : decode cM_numeral 48 = .ok (.lload 4, 2) := by decide +kernel
theorem dM_numeral_50 : decode cM_numeral 50 = .ok (.iload_n 3, 1) := by decide +kernel
theorem dM_numeral_51 : decode cM_numeral 51 = .ok (.i2l, 1) := by decide +kernel
theorem dM_numeral_52 : decode cM_numeral 52 = .ok (.lmul, 1) := by decide +kernel
theorem dM_numeral_53 : decode cM_numeral 53 = .ok (.iload 7, 2) := by decide +kernel
theorem dM_numeral_55 : decode cM_numeral 55 = .ok (.i2l, 1) := by decide +kernel
theorem dM_numeral_56 : decode cM_numeral 56 = .ok (.ladd, 1) := by decide +kernel
theorem dM_numeral_57 : decode cM_numeral 57 = .ok (.goto (6), 3) := by decide +kernel
theorem dM_numeral_60 : decode cM_numeral 60 = .ok (.ldc2_w 402, 3) := by decide +kernel
theorem dM_numeral_63 : decode cM_numeral 63 = .ok (.lstore 4, 2) := by decide +kernel
theorem dM_numeral_65 : decode cM_numeral 65 = .ok (.lload 4, 2) := by decide +kernel
theorem dM_numeral_67 : decode cM_numeral 67 = .ok (.ldc2_w 407, 3) := by decide +kernel
theorem dM_numeral_70 : decode cM_numeral 70 = .ok (.lcmp, 1) := by decide +kernel
theorem dM_numeral_71 : decode cM_numeral 71 = .ok (.ifCond .le (9), 3) := by decide +kernel
theorem dM_numeral_74 : decode cM_numeral 74 = .ok (.ldc2_w 402, 3) := by decide +kernel
theorem dM_numeral_77 : decode cM_numeral 77 = .ok (.goto (5), 3) := by decide +kernel
theorem dM_numeral_80 : decode cM_numeral 80 = .ok (.lload 4, 2) := by decide +kernel
theorem dM_numeral_82 : decode cM_numeral 82 = .ok (.lstore 4, 2) := by decide +kernel
theorem dM_numeral_84 : decode cM_numeral 84 = .ok (.iinc 6 (1), 3) := by decide +kernel
theorem dM_numeral_87 : decode cM_numeral 87 = .ok (.goto (-70), 3) := by decide +kernel
theorem dM_numeral_90 : decode cM_numeral 90 = .ok (.lload 4, 2) := by decide +kernel
theorem dM_numeral_92 : decode cM_numeral 92 = .ok (.lreturn, 1) := by decide +kernel
abbrev cM_digits : ByteArray := prog_14_method_14_code
def yM_digits : MethodName := ⟨RM, "digits", "()V"⟩
abbrev rm_digits : Room := { frames := 3, cells := 0, slots := 0, locals := 67 }
theorem dM_digits_0 : decode cM_digits 0 = .ok (.aload_n 0, 1) := by decide +kernel
theorem dM_digits_1 : decode cM_digits 1 = .ok (.getfield 381, 3) := by decide +kernel
theorem dM_digits_4 : decode cM_digits 4 = .ok (.aload_n 0, 1) := by decide +kernel
theorem dM_digits_5 : decode cM_digits 5 = .ok (.getfield 378, 3) := by decide +kernel
theorem dM_digits_8 : decode cM_digits 8 = .ok (.isub, 1) := by decide +kernel
theorem dM_digits_9 : decode cM_digits 9 = .ok (.iconst 1, 1) := by decide +kernel
theorem dM_digits_10 : decode cM_digits 10 = .ok (.if_icmp .le (17), 3) := by decide +kernel
theorem dM_digits_13 : decode cM_digits 13 = .ok (.aload_n 0, 1) := by decide +kernel
theorem dM_digits_14 : decode cM_digits 14 = .ok (.getfield 327, 3) := by decide +kernel
theorem dM_digits_17 : decode cM_digits 17 = .ok (.aload_n 0, 1) := by decide +kernel
theorem dM_digits_18 : decode cM_digits 18 = .ok (.getfield 378, 3) := by decide +kernel
theorem dM_digits_21 : decode cM_digits 21 = .ok (.iconst 1, 1) := by decide +kernel
theorem dM_digits_22 : decode cM_digits 22 = .ok (.iadd, 1) := by decide +kernel
theorem dM_digits_23 : decode cM_digits 23 = .ok (.caload, 1) := by decide +kernel
theorem dM_digits_24 : decode cM_digits 24 = .ok (.goto (4), 3) := by decide +kernel
theorem dM_digits_27 : decode cM_digits 27 = .ok (.iconst 0, 1) := by decide +kernel
theorem dM_digits_28 : decode cM_digits 28 = .ok (.istore_n 1, 1) := by decide +kernel
theorem dM_digits_29 : decode cM_digits 29 = .ok (.aload_n 0, 1) := by decide +kernel
theorem dM_digits_30 : decode cM_digits 30 = .ok (.getfield 381, 3) := by decide +kernel
theorem dM_digits_33 : decode cM_digits 33 = .ok (.aload_n 0, 1) := by decide +kernel
theorem dM_digits_34 : decode cM_digits 34 = .ok (.getfield 378, 3) := by decide +kernel
theorem dM_digits_37 : decode cM_digits 37 = .ok (.isub, 1) := by decide +kernel
theorem dM_digits_38 : decode cM_digits 38 = .ok (.iconst 2, 1) := by decide +kernel
theorem dM_digits_39 : decode cM_digits 39 = .ok (.if_icmp .ne (19), 3) := by decide +kernel
theorem dM_digits_42 : decode cM_digits 42 = .ok (.iload_n 1, 1) := by decide +kernel
theorem dM_digits_43 : decode cM_digits 43 = .ok (.bipush 102, 2) := by decide +kernel
theorem dM_digits_45 : decode cM_digits 45 = .ok (.if_icmp .eq (9), 3) := by decide +kernel
theorem dM_digits_48 : decode cM_digits 48 = .ok (.iload_n 1, 1) := by decide +kernel
theorem dM_digits_49 : decode cM_digits 49 = .ok (.bipush 98, 2) := by decide +kernel
theorem dM_digits_51 : decode cM_digits 51 = .ok (.if_icmp .ne (7), 3) := by decide +kernel
theorem dM_digits_54 : decode cM_digits 54 = .ok (.iconst 1, 1) := by decide +kernel
theorem dM_digits_55 : decode cM_digits 55 = .ok (.goto (4), 3) := by decide +kernel
theorem dM_digits_58 : decode cM_digits 58 = .ok (.iconst 0, 1) := by decide +kernel
theorem dM_digits_59 : decode cM_digits 59 = .ok (.istore_n 2, 1) := by decide +kernel
theorem dM_digits_60 : decode cM_digits 60 = .ok (.iload_n 2, 1) := by decide +kernel
theorem dM_digits_61 : decode cM_digits 61 = .ok (.ifCond .eq (25), 3) := by decide +kernel
theorem dM_digits_64 : decode cM_digits 64 = .ok (.aload_n 0, 1) := by decide +kernel
theorem dM_digits_65 : decode cM_digits 65 = .ok (.iconst 3, 1) := by decide +kernel
theorem dM_digits_66 : decode cM_digits 66 = .ok (.putfield 375, 3) := by decide +kernel
theorem dM_digits_69 : decode cM_digits 69 = .ok (.aload_n 0, 1) := by decide +kernel
theorem dM_digits_70 : decode cM_digits 70 = .ok (.aload_n 0, 1) := by decide +kernel
theorem dM_digits_71 : decode cM_digits 71 = .ok (.getfield 327, 3) := by decide +kernel
theorem dM_digits_74 : decode cM_digits 74 = .ok (.aload_n 0, 1) := by decide +kernel
theorem dM_digits_75 : decode cM_digits 75 = .ok (.getfield 378, 3) := by decide +kernel
theorem dM_digits_78 : decode cM_digits 78 = .ok (.caload, 1) := by decide +kernel
theorem dM_digits_79 : decode cM_digits 79 = .ok (.bipush 48, 2) := by decide +kernel
theorem dM_digits_81 : decode cM_digits 81 = .ok (.isub, 1) := by decide +kernel
theorem dM_digits_82 : decode cM_digits 82 = .ok (.putfield 409, 3) := by decide +kernel
theorem dM_digits_85 : decode cM_digits 85 = .ok (.return_, 1) := by decide +kernel
theorem dM_digits_86 : decode cM_digits 86 = .ok (.aload_n 0, 1) := by decide +kernel
theorem dM_digits_87 : decode cM_digits 87 = .ok (.getfield 327, 3) := by decide +kernel
theorem dM_digits_90 : decode cM_digits 90 = .ok (.aload_n 0, 1) := by decide +kernel
theorem dM_digits_91 : decode cM_digits 91 = .ok (.getfield 378, 3) := by decide +kernel
theorem dM_digits_94 : decode cM_digits 94 = .ok (.caload, 1) := by decide +kernel
theorem dM_digits_95 : decode cM_digits 95 = .ok (.bipush 48, 2) := by decide +kernel
theorem dM_digits_97 : decode cM_digits 97 = .ok (.if_icmp .ne (7), 3) := by decide +kernel
theorem dM_digits_100 : decode cM_digits 100 = .ok (.iconst 1, 1) := by decide +kernel
theorem dM_digits_101 : decode cM_digits 101 = .ok (.goto (4), 3) := by decide +kernel
theorem dM_digits_104 : decode cM_digits 104 = .ok (.iconst 0, 1) := by decide +kernel
theorem dM_digits_105 : decode cM_digits 105 = .ok (.istore_n 3, 1) := by decide +kernel
theorem dM_digits_106 : decode cM_digits 106 = .ok (.iload_n 3, 1) := by decide +kernel
theorem dM_digits_107 : decode cM_digits 107 = .ok (.ifCond .eq (28), 3) := by decide +kernel
theorem dM_digits_110 : decode cM_digits 110 = .ok (.iload_n 1, 1) := by decide +kernel
theorem dM_digits_111 : decode cM_digits 111 = .ok (.bipush 120, 2) := by decide +kernel
theorem dM_digits_113 : decode cM_digits 113 = .ok (.if_icmp .ne (22), 3) := by decide +kernel
theorem dM_digits_116 : decode cM_digits 116 = .ok (.aload_n 0, 1) := by decide +kernel
theorem dM_digits_117 : decode cM_digits 117 = .ok (.aload_n 0, 1) := by decide +kernel
theorem dM_digits_118 : decode cM_digits 118 = .ok (.getfield 378, 3) := by decide +kernel
theorem dM_digits_121 : decode cM_digits 121 = .ok (.iconst 2, 1) := by decide +kernel
theorem dM_digits_122 : decode cM_digits 122 = .ok (.iadd, 1) := by decide +kernel
theorem dM_digits_123 : decode cM_digits 123 = .ok (.aload_n 0, 1) := by decide +kernel
theorem dM_digits_124 : decode cM_digits 124 = .ok (.getfield 381, 3) := by decide +kernel
theorem dM_digits_127 : decode cM_digits 127 = .ok (.bipush 16, 2) := by decide +kernel
theorem dM_digits_129 : decode cM_digits 129 = .ok (.invokevirtual 412, 3) := by decide +kernel
theorem dM_digits_132 : decode cM_digits 132 = .ok (.goto (45), 3) := by decide +kernel
theorem dM_digits_135 : decode cM_digits 135 = .ok (.iload_n 3, 1) := by decide +kernel
theorem dM_digits_136 : decode cM_digits 136 = .ok (.ifCond .eq (27), 3) := by decide +kernel
theorem dM_digits_139 : decode cM_digits 139 = .ok (.iload_n 1, 1) := by decide +kernel
theorem dM_digits_140 : decode cM_digits 140 = .ok (.bipush 98, 2) := by decide +kernel
theorem dM_digits_142 : decode cM_digits 142 = .ok (.if_icmp .ne (21), 3) := by decide +kernel
theorem dM_digits_145 : decode cM_digits 145 = .ok (.aload_n 0, 1) := by decide +kernel
theorem dM_digits_146 : decode cM_digits 146 = .ok (.aload_n 0, 1) := by decide +kernel
theorem dM_digits_147 : decode cM_digits 147 = .ok (.getfield 378, 3) := by decide +kernel
theorem dM_digits_150 : decode cM_digits 150 = .ok (.iconst 2, 1) := by decide +kernel
theorem dM_digits_151 : decode cM_digits 151 = .ok (.iadd, 1) := by decide +kernel
theorem dM_digits_152 : decode cM_digits 152 = .ok (.aload_n 0, 1) := by decide +kernel
theorem dM_digits_153 : decode cM_digits 153 = .ok (.getfield 381, 3) := by decide +kernel
theorem dM_digits_156 : decode cM_digits 156 = .ok (.iconst 2, 1) := by decide +kernel
theorem dM_digits_157 : decode cM_digits 157 = .ok (.invokevirtual 412, 3) := by decide +kernel
theorem dM_digits_160 : decode cM_digits 160 = .ok (.goto (17), 3) := by decide +kernel
theorem dM_digits_163 : decode cM_digits 163 = .ok (.aload_n 0, 1) := by decide +kernel
theorem dM_digits_164 : decode cM_digits 164 = .ok (.aload_n 0, 1) := by decide +kernel
theorem dM_digits_165 : decode cM_digits 165 = .ok (.getfield 378, 3) := by decide +kernel
theorem dM_digits_168 : decode cM_digits 168 = .ok (.aload_n 0, 1) := by decide +kernel
theorem dM_digits_169 : decode cM_digits 169 = .ok (.getfield 381, 3) := by decide +kernel
theorem dM_digits_172 : decode cM_digits 172 = .ok (.bipush 10, 2) := by decide +kernel
theorem dM_digits_174 : decode cM_digits 174 = .ok (.invokevirtual 412, 3) := by decide +kernel
theorem dM_digits_177 : decode cM_digits 177 = .ok (.lstore 4, 2) := by decide +kernel
theorem dM_digits_179 : decode cM_digits 179 = .ok (.aload_n 0, 1) := by decide +kernel
theorem dM_digits_180 : decode cM_digits 180 = .ok (.iconst 2, 1) := by decide +kernel
theorem dM_digits_181 : decode cM_digits 181 = .ok (.putfield 375, 3) := by decide +kernel
theorem dM_digits_184 : decode cM_digits 184 = .ok (.aload_n 0, 1) := by decide +kernel
theorem dM_digits_185 : decode cM_digits 185 = .ok (.lload 4, 2) := by decide +kernel
theorem dM_digits_187 : decode cM_digits 187 = .ok (.l2i, 1) := by decide +kernel
theorem dM_digits_188 : decode cM_digits 188 = .ok (.putfield 409, 3) := by decide +kernel
theorem dM_digits_191 : decode cM_digits 191 = .ok (.lload 4, 2) := by decide +kernel
theorem dM_digits_193 : decode cM_digits 193 = .ok (.lconst 0, 1) := by decide +kernel
theorem dM_digits_194 : decode cM_digits 194 = .ok (.lcmp, 1) := by decide +kernel
theorem dM_digits_195 : decode cM_digits 195 = .ok (.ifCond .ge (7), 3) := by decide +kernel
theorem dM_digits_198 : decode cM_digits 198 = .ok (.aload_n 0, 1) := by decide +kernel
theorem dM_digits_199 : decode cM_digits 199 = .ok (.invokevirtual 393, 3) := by decide +kernel
theorem dM_digits_202 : decode cM_digits 202 = .ok (.return_, 1) := by decide +kernel
theorem gM_bad_393 : GoodIn lw_gd (wsV RM 393 RM yM_bad (.code yM_bad cM_bad 1 none :: lw_gd)) := lw_GV q_1843 q_1840 q_1842 qs_58 q_23
theorem gM_base_459 : GoodIn lw_gd (wsV RM 459 RM yM_base (.code yM_base cM_base 1 (some .int) :: lw_gd)) := lw_GV q_1942 q_1939 q_1941 qs_80 q_23
theorem gM_charAt_368 : GoodIn lw_gd (wsV RM 368 RM yM_charAt (.code yM_charAt cM_charAt 2 (some .int) :: lw_gd)) := lw_GV q_1813 q_1810 q_1812 qs_54 q_23
theorem gM_isDigit_361 : GoodIn lw_gd (wsS RM 361 yM_isDigit (.code yM_isDigit cM_isDigit 1 (some .boolean) :: lw_gd)) := lw_GS q_1816 q_1814 q_1815 q_23
theorem gM_isLetter_365 : GoodIn lw_gd (wsS RM 365 yM_isLetter (.code yM_isLetter cM_isLetter 1 (some .boolean) :: lw_gd)) := lw_GS q_1826 q_1824 q_1825 q_23
theorem gM_isPlain_372 : GoodIn lw_gd (wsS RM 372 yM_isPlain (.code yM_isPlain cM_isPlain 1 (some .boolean) :: lw_gd)) := lw_GS q_1823 q_1821 q_1822 q_23
theorem gM_numeral_412 : GoodIn lw_gd (wsV RM 412 RM yM_numeral (.code yM_numeral cM_numeral 8 (some .long) :: lw_gd)) := lw_GV q_1834 q_1831 q_1833 qs_57 q_23
theorem gM_sectionOf_694 : GoodIn lw_gd (wsV RM 694 RM yM_sectionOf (.code yM_sectionOf cM_sectionOf 2 (some .int) :: lw_gd)) := lw_GV q_2105 q_2102 q_2104 qs_114 q_23
theorem gM_shown_416 : GoodIn lw_gd (wsV RM 416 RM yM_shown (.code yM_shown cM_shown 5 (some .int) :: lw_gd)) := lw_GV q_1851 q_1848 q_1850 qs_60 q_23
theorem gM_worth_404 : GoodIn lw_gd (wsS RM 404 yM_worth (.code yM_worth cM_worth 1 (some .int) :: lw_gd)) := lw_GS q_1838 q_1836 q_1837 q_23
section
variable {p : Program} {l : Launch} {e : Env} {s : State} {m : MethodId} {args : Array Value} {below : List Frame} {meth : Method} {c : Code} {D : va_G} {dA : Nat → ClassId} {h : Nat → Nat} {A : Nat → Prop}
def M_thrown  (σ : MS) : Option Int32 :=
  some (σ.1 0)
set_option maxHeartbeats 4000000 in
set_option maxRecDepth 100000 in
theorem bM_thrown_0  {r : Int32} (C : CxM p s m args meth c cM_thrown 1 (some .int) D dA A)  (σ : MS) (hM : M_thrown   σ = some r) (hW : WdM D dA h A s σ s.heap []) (ls : Array Slot) (hl : lv_has ls 1 [(0, .ref (h 0))]) : W p l e rm_thrown s m args below meth c s.heap [] 0 0 (MQ below (QS (some (.int r))) args s 0 0 (fun _ => False)) (F0 m 0 ls []) := by
  have hx := C.1.1
  have hb := C.1.2.1
  have hown := C.1.2.2.2.2.1
  have hT := C.1.2.2.2.2.2.1
  unfold M_thrown at hM
  refine lv_aload_n (pc := 0) hx hb dM_thrown_0 rfl (lv_at hl 0 rfl) ?_
  refine gM (pc := 1) C hW 3 (by decide) q_1660 rfl rfl dM_thrown_1 ?_
  obtain rfl := sm_i hM
  exact x_retS (pc := 4) C.1 rfl dM_thrown_4
theorem kM_thrown (l : Launch) (D : va_G) (dA : Nat → ClassId) (h : Nat → Nat)  (σ : MS) {r : Int32} (hM : M_thrown  σ = some r) : KR l D dA yM_thrown cM_thrown 1 (some .int) rm_thrown h σ [] (some (.int r)) := x_enterR rfl (Nat.le_of_ble_eq_true rfl) (fun p e s m args below meth c A C hW ls hl => bM_thrown_0 C  σ hM hW ls hl)
def M_feed_28 (N : Nat)  (σ : MS) : Option (Int32 × MS) :=
  some ((0 : Int32), σ)
set_option maxHeartbeats 4000000 in
set_option maxRecDepth 100000 in
theorem bM_feed_28 (N : Nat)  {r : Int32} {σ' : MS} (C : CxM p s m args meth c cM_feed 6 (some .boolean) D dA A)  (σ : MS) (hM : M_feed_28 N   σ = some (r, σ')) (H : Heap) (locs : List Loc) (hW : WdM D dA h A s σ H locs) (ls : Array Slot) (hl : lv_has ls 6 []) : W p l e rm_feed s m args below meth c H locs 0 0 (MQ below (QM D dA h A σ' (some (.int r))) args s 0 0 A) (F0 m 28 ls []) := by
  have hx := C.1.1
  have hb := C.1.2.1
  have hown := C.1.2.2.2.2.1
  have hT := C.1.2.2.2.2.2.1
  unfold M_feed_28 at hM
  refine lv_iconst (pc := 28) (v := 0) hx hb dM_feed_28 (by decide) ?_
  obtain ⟨rfl, rfl⟩ := sm_p hM
  exact x_retMz (pc := 29) C rfl rfl hW dM_feed_29
def M_feed_94 (N : Nat)  : Nat → Int64 → Int32 → MS → Option (Int32 × MS)
  | 0 => fun _ _ _ => none
  | n + 1 => fun z1 x4 σ => (if x4 < 0 then some ((1 : Int32), σ) else gd (inB (σ.1 1) 4100) (bnd (sA σ 0 (σ.1 1).toNatClampNeg (vp_nar .char (((((z1 >>> (((8 : Int32) * x4).toInt64 &&& 63)) &&& (255 : Int64)).toInt32).toUInt32 % 65536).toInt32))) (fun σ2 => bnd (sF σ2 1 ((σ2.1 1) + (1 : Int32))) (fun σ3 => (M_feed_94 N  n) z1 (x4 + (-1 : Int32)) σ3))))
set_option maxHeartbeats 4000000 in
set_option maxRecDepth 100000 in
theorem bM_feed_94 (N : Nat)  {r : Int32} {σ' : MS} (C : CxM p s m args meth c cM_feed 6 (some .boolean) D dA A) : ∀ (n : Nat) (z1 : Int64) (x4 : Int32) (σ : MS), M_feed_94 N  n z1 x4 σ = some (r, σ') → ∀ (H : Heap) (locs : List Loc), WdM D dA h A s σ H locs → ∀ (ls : Array Slot), lv_has ls 6 [(0, .ref (h 0)), (1, .long z1), (4, .int x4)] → W p l e rm_feed s m args below meth c H locs 0 0 (MQ below (QM D dA h A σ' (some (.int r))) args s 0 0 A) (F0 m 94 ls []) := by
  have hx := C.1.1
  have hb := C.1.2.1
  have hown := C.1.2.2.2.2.1
  have hT := C.1.2.2.2.2.2.1
  intro n
  induction n with
  | zero => intro z1 x4 σ hM; cases hM
  | succ n hrec94 =>
    intro z1 x4 σ hM H locs hW ls hl
    rw [M_feed_94] at hM
    refine lv_iload (pc := 94) hx hb dM_feed_94 (lv_at hl 2 rfl) ?_
    refine lv_if_lt (pc := 96) (tgt := 137) hx hb dM_feed_96 (by decide) (fun hc => ?_) (fun hc => ?_)
    · replace hM := it_t hc hM
      refine lv_iconst (pc := 137) (v := 1) hx hb dM_feed_137 (by decide) ?_
      obtain ⟨rfl, rfl⟩ := sm_p hM
      exact x_retMz (pc := 138) C rfl rfl hW dM_feed_138
    · replace hM := it_f hc hM
      refine lv_aload_n (pc := 99) hx hb dM_feed_99 rfl (lv_at hl 0 rfl) ?_
      refine gM (pc := 100) C hW 4 (by decide) q_1661 rfl rfl dM_feed_100 ?_
      refine lv_aload_n (pc := 103) hx hb dM_feed_103 rfl (lv_at hl 0 rfl) ?_
      refine gM (pc := 104) C hW 5 (by decide) q_1662 rfl rfl dM_feed_104 ?_
      refine lv_lload_n (pc := 107) hx hb dM_feed_107 rfl (lv_at hl 1 rfl) ?_
      refine lv_bipush (pc := 108) (v := 8) hx hb dM_feed_108 (by decide) ?_
      refine lv_iload (pc := 110) hx hb dM_feed_110 (lv_at hl 2 rfl) ?_
      refine lv_imul (pc := 112) hx hb dM_feed_112 ?_
      refine lv_lshr (pc := 113) (v := z1 >>> (((8 : Int32) * x4).toInt64 &&& 63)) hx hb dM_feed_113 rfl ?_
      refine lv_ldc2 (pc := 114) (v := 255) hx hb hown (hT _ q_1789) dM_feed_114 ?_
      refine lv_land (pc := 117) hx hb dM_feed_117 ?_
      refine lv_l2i (pc := 118) (v := ((z1 >>> (((8 : Int32) * x4).toInt64 &&& 63)) &&& (255 : Int64)).toInt32) hx hb dM_feed_118 rfl ?_
      refine lv_i2c (pc := 119) (v := ((((z1 >>> (((8 : Int32) * x4).toInt64 &&& 63)) &&& (255 : Int64)).toInt32).toUInt32 % 65536).toInt32) hx hb dM_feed_119 rfl ?_
      obtain ⟨hg1, hM⟩ := gd_some hM
      refine x_stC (pc := 120) C hW 4 0 rfl hg1 (sa_typed dA h _ _ _) dM_feed_120 (fun H locs hW => ?_)
      obtain ⟨σ2, eσ2, hM⟩ := bnd_some hM
      rw [← eσ2] at hW
      refine lv_aload_n (pc := 121) hx hb dM_feed_121 rfl (lv_at hl 0 rfl) ?_
      refine lv_dup (pc := 122) hx hb dM_feed_122 rfl ?_
      refine gM (pc := 123) C hW 5 (by decide) q_1662 rfl rfl dM_feed_123 ?_
      refine lv_iconst (pc := 126) (v := 1) hx hb dM_feed_126 (by decide) ?_
      refine lv_iadd (pc := 127) hx hb dM_feed_127 ?_
      refine pM (pc := 128) (ty := .int) C hW 5 1 (by decide) q_1662 rfl rfl (by decide +kernel) rfl rfl (st_typedSize dA h _ _) dM_feed_128 (fun H locs hW => ?_)
      obtain ⟨σ3, eσ3, hM⟩ := bnd_some hM
      rw [← eσ3] at hW
      refine lv_iinc (pc := 131) (v := x4 + (-1 : Int32)) (lv' := [(4, .int (x4 + (-1 : Int32))), (0, .ref (h 0)), (1, .long z1)]) hx hb dM_feed_131 hl (k := 2) rfl rfl (by decide) rfl (fun ls hl => ?_)
      refine lv_goto (pc := 134) (tgt := 94) hx hb dM_feed_134 (by decide) ?_
      exact hrec94 _ _ _ hM _ _ hW _ (lv_sub hl [1, 2, 0] rfl)
def M_feed_83 (N : Nat) (rec33 : Int64 → Int32 → Int32 → MS → Option (Int32 × MS)) (z1 : Int64) (x3 : Int32) (x4 : Int32) (σ : MS) : Option (Int32 × MS) :=
  rec33 z1 x3 (x4 + (1 : Int32)) σ
set_option maxHeartbeats 4000000 in
set_option maxRecDepth 100000 in
theorem bM_feed_83 (N : Nat) (rec33 : Int64 → Int32 → Int32 → MS → Option (Int32 × MS)) {r : Int32} {σ' : MS} (C : CxM p s m args meth c cM_feed 6 (some .boolean) D dA A) (hrec33 : ∀ (z1 : Int64) (x3 : Int32) (x4 : Int32) (σ : MS), rec33 z1 x3 x4 σ = some (r, σ') → ∀ (H : Heap) (locs : List Loc), WdM D dA h A s σ H locs → ∀ (ls : Array Slot), lv_has ls 6 [(0, .ref (h 0)), (1, .long z1), (3, .int x3), (4, .int x4)] → W p l e rm_feed s m args below meth c H locs 0 0 (MQ below (QM D dA h A σ' (some (.int r))) args s 0 0 A) (F0 m 33 ls [])) (z1 : Int64) (x3 : Int32) (x4 : Int32) (σ : MS) (hM : M_feed_83 N rec33 z1 x3 x4 σ = some (r, σ')) (H : Heap) (locs : List Loc) (hW : WdM D dA h A s σ H locs) (ls : Array Slot) (hl : lv_has ls 6 [(0, .ref (h 0)), (1, .long z1), (3, .int x3), (4, .int x4)]) : W p l e rm_feed s m args below meth c H locs 0 0 (MQ below (QM D dA h A σ' (some (.int r))) args s 0 0 A) (F0 m 83 ls []) := by
  have hx := C.1.1
  have hb := C.1.2.1
  have hown := C.1.2.2.2.2.1
  have hT := C.1.2.2.2.2.2.1
  unfold M_feed_83 at hM
  refine lv_iinc (pc := 83) (v := x4 + (1 : Int32)) (lv' := [(4, .int (x4 + (1 : Int32))), (0, .ref (h 0)), (1, .long z1), (3, .int x3)]) hx hb dM_feed_83 hl (k := 3) rfl rfl (by decide) rfl (fun ls hl => ?_)
  refine lv_goto (pc := 86) (tgt := 33) hx hb dM_feed_86 (by decide) ?_
  exact hrec33 _ _ _ _ hM _ _ hW _ (lv_sub hl [1, 2, 3, 0] rfl)
def M_feed_81 (N : Nat)  (σ : MS) : Option (Int32 × MS) :=
  some ((0 : Int32), σ)
set_option maxHeartbeats 4000000 in
set_option maxRecDepth 100000 in
theorem bM_feed_81 (N : Nat)  {r : Int32} {σ' : MS} (C : CxM p s m args meth c cM_feed 6 (some .boolean) D dA A)  (σ : MS) (hM : M_feed_81 N   σ = some (r, σ')) (H : Heap) (locs : List Loc) (hW : WdM D dA h A s σ H locs) (ls : Array Slot) (hl : lv_has ls 6 []) : W p l e rm_feed s m args below meth c H locs 0 0 (MQ below (QM D dA h A σ' (some (.int r))) args s 0 0 A) (F0 m 81 ls []) := by
  have hx := C.1.1
  have hb := C.1.2.1
  have hown := C.1.2.2.2.2.1
  have hT := C.1.2.2.2.2.2.1
  unfold M_feed_81 at hM
  refine lv_iconst (pc := 81) (v := 0) hx hb dM_feed_81 (by decide) ?_
  obtain ⟨rfl, rfl⟩ := sm_p hM
  exact x_retMz (pc := 82) C rfl rfl hW dM_feed_82
def M_feed_33 (N : Nat)  : Nat → Int64 → Int32 → Int32 → MS → Option (Int32 × MS)
  | 0 => fun _ _ _ _ => none
  | n + 1 => fun z1 x3 x4 σ => (if x3 ≤ x4 then M_feed_94 N  N z1 (x3 - (1 : Int32)) σ else bnd (((z1 >>> (((8 : Int32) * x4).toInt64 &&& 63)) &&& (255 : Int64)).toInt32) (fun y1 => (if y1 = (9 : Int32) then M_feed_83 N (M_feed_33 N  n) z1 x3 x4 σ else (if y1 = (10 : Int32) then M_feed_83 N (M_feed_33 N  n) z1 x3 x4 σ else (if y1 < (32 : Int32) then M_feed_81 N  σ else (if y1 ≤ (126 : Int32) then M_feed_83 N (M_feed_33 N  n) z1 x3 x4 σ else M_feed_81 N  σ))))))
set_option maxHeartbeats 4000000 in
set_option maxRecDepth 100000 in
theorem bM_feed_33 (N : Nat)  {r : Int32} {σ' : MS} (C : CxM p s m args meth c cM_feed 6 (some .boolean) D dA A) : ∀ (n : Nat) (z1 : Int64) (x3 : Int32) (x4 : Int32) (σ : MS), M_feed_33 N  n z1 x3 x4 σ = some (r, σ') → ∀ (H : Heap) (locs : List Loc), WdM D dA h A s σ H locs → ∀ (ls : Array Slot), lv_has ls 6 [(0, .ref (h 0)), (1, .long z1), (3, .int x3), (4, .int x4)] → W p l e rm_feed s m args below meth c H locs 0 0 (MQ below (QM D dA h A σ' (some (.int r))) args s 0 0 A) (F0 m 33 ls []) := by
  have hx := C.1.1
  have hb := C.1.2.1
  have hown := C.1.2.2.2.2.1
  have hT := C.1.2.2.2.2.2.1
  intro n
  induction n with
  | zero => intro z1 x3 x4 σ hM; cases hM
  | succ n hrec33 =>
    intro z1 x3 x4 σ hM H locs hW ls hl
    rw [M_feed_33] at hM
    refine lv_iload (pc := 33) hx hb dM_feed_33 (lv_at hl 3 rfl) ?_
    refine lv_iload_n (pc := 35) hx hb dM_feed_35 rfl (lv_at hl 2 rfl) ?_
    refine lv_icmp_ge (pc := 36) (tgt := 89) hx hb dM_feed_36 (by decide) (fun hc => ?_) (fun hc => ?_)
    · replace hM := it_t hc hM
      refine lv_iload_n (pc := 89) hx hb dM_feed_89 rfl (lv_at hl 2 rfl) ?_
      refine lv_iconst (pc := 90) (v := 1) hx hb dM_feed_90 (by decide) ?_
      refine lv_isub (pc := 91) hx hb dM_feed_91 ?_
      refine lv_istore (pc := 92) (lv' := [(4, .int (x3 - (1 : Int32))), (0, .ref (h 0)), (1, .long z1), (3, .int x3)]) hx hb dM_feed_92 hl (by decide) rfl (fun ls hl => ?_)
      exact bM_feed_94 N  C  N _ _ _ hM _ _ hW _ (lv_sub hl [1, 2, 0] rfl)
    · replace hM := it_f hc hM
      refine lv_lload_n (pc := 39) hx hb dM_feed_39 rfl (lv_at hl 1 rfl) ?_
      refine lv_bipush (pc := 40) (v := 8) hx hb dM_feed_40 (by decide) ?_
      refine lv_iload (pc := 42) hx hb dM_feed_42 (lv_at hl 3 rfl) ?_
      refine lv_imul (pc := 44) hx hb dM_feed_44 ?_
      refine lv_lshr (pc := 45) (v := z1 >>> (((8 : Int32) * x4).toInt64 &&& 63)) hx hb dM_feed_45 rfl ?_
      refine lv_ldc2 (pc := 46) (v := 255) hx hb hown (hT _ q_1789) dM_feed_46 ?_
      refine lv_land (pc := 49) hx hb dM_feed_49 ?_
      refine lv_l2i (pc := 50) (v := ((z1 >>> (((8 : Int32) * x4).toInt64 &&& 63)) &&& (255 : Int64)).toInt32) hx hb dM_feed_50 rfl ?_
      obtain ⟨y1, ey1, hM⟩ := bnd_some hM
      refine x_seti ey1 ?_
      refine lv_istore (pc := 51) (lv' := [(5, .int y1), (0, .ref (h 0)), (1, .long z1), (3, .int x3), (4, .int x4)]) hx hb dM_feed_51 hl (by decide) rfl (fun ls hl => ?_)
      refine lv_iload (pc := 53) hx hb dM_feed_53 (lv_at hl 0 rfl) ?_
      refine lv_bipush (pc := 55) (v := 9) hx hb dM_feed_55 (by decide) ?_
      refine lv_icmp_eq (pc := 57) (tgt := 83) hx hb dM_feed_57 (by decide) (fun hc => ?_) (fun hc => ?_)
      · replace hM := it_t hc hM
        exact bM_feed_83 N _ C hrec33 _ _ _ _ hM _ _ hW _ (lv_sub hl [1, 2, 3, 4] rfl)
      · replace hM := it_f hc hM
        refine lv_iload (pc := 60) hx hb dM_feed_60 (lv_at hl 0 rfl) ?_
        refine lv_bipush (pc := 62) (v := 10) hx hb dM_feed_62 (by decide) ?_
        refine lv_icmp_eq (pc := 64) (tgt := 83) hx hb dM_feed_64 (by decide) (fun hc => ?_) (fun hc => ?_)
        · replace hM := it_t hc hM
          exact bM_feed_83 N _ C hrec33 _ _ _ _ hM _ _ hW _ (lv_sub hl [1, 2, 3, 4] rfl)
        · replace hM := it_f hc hM
          refine lv_iload (pc := 67) hx hb dM_feed_67 (lv_at hl 0 rfl) ?_
          refine lv_bipush (pc := 69) (v := 32) hx hb dM_feed_69 (by decide) ?_
          refine lv_icmp_lt (pc := 71) (tgt := 81) hx hb dM_feed_71 (by decide) (fun hc => ?_) (fun hc => ?_)
          · replace hM := it_t hc hM
            exact bM_feed_81 N  C   _ hM _ _ hW _ (lv_sub hl [] rfl)
          · replace hM := it_f hc hM
            refine lv_iload (pc := 74) hx hb dM_feed_74 (lv_at hl 0 rfl) ?_
            refine lv_bipush (pc := 76) (v := 126) hx hb dM_feed_76 (by decide) ?_
            refine lv_icmp_le (pc := 78) (tgt := 83) hx hb dM_feed_78 (by decide) (fun hc => ?_) (fun hc => ?_)
            · replace hM := it_t hc hM
              exact bM_feed_83 N _ C hrec33 _ _ _ _ hM _ _ hW _ (lv_sub hl [1, 2, 3, 4] rfl)
            · replace hM := it_f hc hM
              exact bM_feed_81 N  C   _ hM _ _ hW _ (lv_sub hl [] rfl)
def M_feed (N : Nat) (z1 : Int64) (x3 : Int32) (σ : MS) : Option (Int32 × MS) :=
  bnd (sF σ 0 (0 : Int32)) (fun σ1 => (if x3 < (1 : Int32) then M_feed_28 N  σ1 else (if (8 : Int32) < x3 then M_feed_28 N  σ1 else (if ((σ1.1 1) + x3) ≤ (65536 : Int32) then M_feed_33 N  N z1 x3 (0 : Int32) σ1 else M_feed_28 N  σ1))))
set_option maxHeartbeats 4000000 in
set_option maxRecDepth 100000 in
theorem bM_feed_0 (N : Nat)  {r : Int32} {σ' : MS} (C : CxM p s m args meth c cM_feed 6 (some .boolean) D dA A) (z1 : Int64) (x3 : Int32) (σ : MS) (hM : M_feed N  z1 x3 σ = some (r, σ')) (H : Heap) (locs : List Loc) (hW : WdM D dA h A s σ H locs) (ls : Array Slot) (hl : lv_has ls 6 [(0, .ref (h 0)), (1, .long z1), (3, .int x3)]) : W p l e rm_feed s m args below meth c H locs 0 0 (MQ below (QM D dA h A σ' (some (.int r))) args s 0 0 A) (F0 m 0 ls []) := by
  have hx := C.1.1
  have hb := C.1.2.1
  have hown := C.1.2.2.2.2.1
  have hT := C.1.2.2.2.2.2.1
  unfold M_feed at hM
  refine lv_aload_n (pc := 0) hx hb dM_feed_0 rfl (lv_at hl 0 rfl) ?_
  refine lv_iconst (pc := 1) (v := 0) hx hb dM_feed_1 (by decide) ?_
  refine pM (pc := 2) (ty := .int) C hW 3 0 (by decide) q_1660 rfl rfl (by decide +kernel) rfl rfl (st_thrown dA h _ _) dM_feed_2 (fun H locs hW => ?_)
  obtain ⟨σ1, eσ1, hM⟩ := bnd_some hM
  rw [← eσ1] at hW
  refine lv_iload_n (pc := 5) hx hb dM_feed_5 rfl (lv_at hl 2 rfl) ?_
  refine lv_iconst (pc := 6) (v := 1) hx hb dM_feed_6 (by decide) ?_
  refine lv_icmp_lt (pc := 7) (tgt := 28) hx hb dM_feed_7 (by decide) (fun hc => ?_) (fun hc => ?_)
  · replace hM := it_t hc hM
    exact bM_feed_28 N  C   _ hM _ _ hW _ (lv_sub hl [] rfl)
  · replace hM := it_f hc hM
    refine lv_iload_n (pc := 10) hx hb dM_feed_10 rfl (lv_at hl 2 rfl) ?_
    refine lv_bipush (pc := 11) (v := 8) hx hb dM_feed_11 (by decide) ?_
    refine lv_icmp_gt (pc := 13) (tgt := 28) hx hb dM_feed_13 (by decide) (fun hc => ?_) (fun hc => ?_)
    · replace hM := it_t hc hM
      exact bM_feed_28 N  C   _ hM _ _ hW _ (lv_sub hl [] rfl)
    · replace hM := it_f hc hM
      refine lv_aload_n (pc := 16) hx hb dM_feed_16 rfl (lv_at hl 0 rfl) ?_
      refine gM (pc := 17) C hW 5 (by decide) q_1662 rfl rfl dM_feed_17 ?_
      refine lv_iload_n (pc := 20) hx hb dM_feed_20 rfl (lv_at hl 2 rfl) ?_
      refine lv_iadd (pc := 21) hx hb dM_feed_21 ?_
      refine lv_ldcw (pc := 22) (v := 65536) hx hb hown (hT _ q_1788) dM_feed_22 ?_
      refine lv_icmp_le (pc := 25) (tgt := 30) hx hb dM_feed_25 (by decide) (fun hc => ?_) (fun hc => ?_)
      · replace hM := it_t hc hM
        refine lv_iconst (pc := 30) (v := 0) hx hb dM_feed_30 (by decide) ?_
        refine lv_istore (pc := 31) (lv' := [(4, .int (0 : Int32)), (0, .ref (h 0)), (1, .long z1), (3, .int x3)]) hx hb dM_feed_31 hl (by decide) rfl (fun ls hl => ?_)
        exact bM_feed_33 N  C  N _ _ _ _ hM _ _ hW _ (lv_sub hl [1, 2, 3, 0] rfl)
      · replace hM := it_f hc hM
        exact bM_feed_28 N  C   _ hM _ _ hW _ (lv_sub hl [] rfl)
theorem kM_feed (l : Launch) (D : va_G) (dA : Nat → ClassId) (h : Nat → Nat) (N : Nat) (z1 : Int64) (x3 : Int32) (σ : MS) {r : Int32} {σ' : MS} (hM : M_feed N z1 x3 σ = some (r, σ')) : KM l D dA yM_feed cM_feed 6 (some .boolean) rm_feed h σ [.long z1, .int x3] (some (.int r)) σ' := x_enterM rfl (Nat.le_of_ble_eq_true rfl) (fun p e s m args below meth c A C hW ls hl => bM_feed_0 N C z1 x3 σ hM s.heap [] hW ls hl)
def M_clear  (σ : MS) : Option (Int32 × MS) :=
  bnd (sF σ 0 (0 : Int32)) (fun σ1 => bnd (sF σ1 1 (0 : Int32)) (fun σ2 => some (σ1.1 1, σ2)))
set_option maxHeartbeats 4000000 in
set_option maxRecDepth 100000 in
theorem bM_clear_0  {r : Int32} {σ' : MS} (C : CxM p s m args meth c cM_clear 2 (some .int) D dA A)  (σ : MS) (hM : M_clear   σ = some (r, σ')) (H : Heap) (locs : List Loc) (hW : WdM D dA h A s σ H locs) (ls : Array Slot) (hl : lv_has ls 2 [(0, .ref (h 0))]) : W p l e rm_clear s m args below meth c H locs 0 0 (MQ below (QM D dA h A σ' (some (.int r))) args s 0 0 A) (F0 m 0 ls []) := by
  have hx := C.1.1
  have hb := C.1.2.1
  have hown := C.1.2.2.2.2.1
  have hT := C.1.2.2.2.2.2.1
  unfold M_clear at hM
  refine lv_aload_n (pc := 0) hx hb dM_clear_0 rfl (lv_at hl 0 rfl) ?_
  refine lv_iconst (pc := 1) (v := 0) hx hb dM_clear_1 (by decide) ?_
  refine pM (pc := 2) (ty := .int) C hW 3 0 (by decide) q_1660 rfl rfl (by decide +kernel) rfl rfl (st_thrown dA h _ _) dM_clear_2 (fun H locs hW => ?_)
  obtain ⟨σ1, eσ1, hM⟩ := bnd_some hM
  rw [← eσ1] at hW
  refine lv_aload_n (pc := 5) hx hb dM_clear_5 rfl (lv_at hl 0 rfl) ?_
  refine gM (pc := 6) C hW 5 (by decide) q_1662 rfl rfl dM_clear_6 ?_
  refine lv_istore_n (pc := 9) (lv' := [(1, .int (σ1.1 1)), (0, .ref (h 0))]) hx hb dM_clear_9 rfl hl (by decide) rfl (fun ls hl => ?_)
  refine lv_aload_n (pc := 10) hx hb dM_clear_10 rfl (lv_at hl 1 rfl) ?_
  refine lv_iconst (pc := 11) (v := 0) hx hb dM_clear_11 (by decide) ?_
  refine pM (pc := 12) (ty := .int) C hW 5 1 (by decide) q_1662 rfl rfl (by decide +kernel) rfl rfl (st_typedSize dA h _ _) dM_clear_12 (fun H locs hW => ?_)
  obtain ⟨σ2, eσ2, hM⟩ := bnd_some hM
  rw [← eσ2] at hW
  refine lv_iload_n (pc := 15) hx hb dM_clear_15 rfl (lv_at hl 0 rfl) ?_
  obtain ⟨rfl, rfl⟩ := sm_p hM
  exact x_retMi (pc := 16) C rfl hW dM_clear_16
theorem kM_clear (l : Launch) (D : va_G) (dA : Nat → ClassId) (h : Nat → Nat)  (σ : MS) {r : Int32} {σ' : MS} (hM : M_clear  σ = some (r, σ')) : KM l D dA yM_clear cM_clear 2 (some .int) rm_clear h σ [] (some (.int r)) σ' := x_enterM rfl (Nat.le_of_ble_eq_true rfl) (fun p e s m args below meth c A C hW ls hl => bM_clear_0 C  σ hM s.heap [] hW ls hl)
def M_base  (σ : MS) : Option Int32 :=
  gd (nz (1024 : Int32)) (some ((((σ.1 6) + (1023 : Int32)) / (1024 : Int32)) * (1024 : Int32)))
set_option maxHeartbeats 4000000 in
set_option maxRecDepth 100000 in
theorem bM_base_0  {r : Int32} (C : CxM p s m args meth c cM_base 1 (some .int) D dA A)  (σ : MS) (hM : M_base   σ = some r) (hW : WdM D dA h A s σ s.heap []) (ls : Array Slot) (hl : lv_has ls 1 [(0, .ref (h 0))]) : W p l e rm_base s m args below meth c s.heap [] 0 0 (MQ below (QS (some (.int r))) args s 0 0 (fun _ => False)) (F0 m 0 ls []) := by
  have hx := C.1.1
  have hb := C.1.2.1
  have hown := C.1.2.2.2.2.1
  have hT := C.1.2.2.2.2.2.1
  unfold M_base at hM
  refine lv_aload_n (pc := 0) hx hb dM_base_0 rfl (lv_at hl 0 rfl) ?_
  refine gM (pc := 1) C hW 16 (by decide) q_1673 rfl rfl dM_base_1 ?_
  refine lv_sipush (pc := 4) (v := 1023) hx hb dM_base_4 (by decide) ?_
  refine lv_iadd (pc := 7) hx hb dM_base_7 ?_
  refine lv_sipush (pc := 8) (v := 1024) hx hb dM_base_8 (by decide) ?_
  obtain ⟨hg1, hM⟩ := gd_some hM
  refine lv_idiv (pc := 11) hx hb dM_base_11 (nz_ne hg1) ?_
  refine lv_sipush (pc := 12) (v := 1024) hx hb dM_base_12 (by decide) ?_
  refine lv_imul (pc := 15) hx hb dM_base_15 ?_
  obtain rfl := sm_i hM
  exact x_retS (pc := 16) C.1 rfl dM_base_16
theorem kM_base (l : Launch) (D : va_G) (dA : Nat → ClassId) (h : Nat → Nat)  (σ : MS) {r : Int32} (hM : M_base  σ = some r) : KR l D dA yM_base cM_base 1 (some .int) rm_base h σ [] (some (.int r)) := x_enterR rfl (Nat.le_of_ble_eq_true rfl) (fun p e s m args below meth c A C hW ls hl => bM_base_0 C  σ hM hW ls hl)
def M_sectionOf (x1 : Int32) (σ : MS) : Option Int32 :=
  gd (inB x1 1030) (some (((σ.2 2 x1.toNatClampNeg) >>> ((15 : Int32) &&& 31)) &&& (1 : Int32)))
set_option maxHeartbeats 4000000 in
set_option maxRecDepth 100000 in
theorem bM_sectionOf_0  {r : Int32} (C : CxM p s m args meth c cM_sectionOf 2 (some .int) D dA A) (x1 : Int32) (σ : MS) (hM : M_sectionOf  x1 σ = some r) (hW : WdM D dA h A s σ s.heap []) (ls : Array Slot) (hl : lv_has ls 2 [(0, .ref (h 0)), (1, .int x1)]) : W p l e rm_sectionOf s m args below meth c s.heap [] 0 0 (MQ below (QS (some (.int r))) args s 0 0 (fun _ => False)) (F0 m 0 ls []) := by
  have hx := C.1.1
  have hb := C.1.2.1
  have hown := C.1.2.2.2.2.1
  have hT := C.1.2.2.2.2.2.1
  unfold M_sectionOf at hM
  refine lv_aload_n (pc := 0) hx hb dM_sectionOf_0 rfl (lv_at hl 0 rfl) ?_
  refine gM (pc := 1) C hW 10 (by decide) q_1667 rfl rfl dM_sectionOf_1 ?_
  refine lv_iload_n (pc := 4) hx hb dM_sectionOf_4 rfl (lv_at hl 1 rfl) ?_
  obtain ⟨hg1, hM⟩ := gd_some hM
  refine x_ldI (pc := 5) C hW 6 rfl hg1 dM_sectionOf_5 ?_
  refine lv_bipush (pc := 6) (v := 15) hx hb dM_sectionOf_6 (by decide) ?_
  refine lv_ishr (pc := 8) hx hb dM_sectionOf_8 ?_
  refine lv_iconst (pc := 9) (v := 1) hx hb dM_sectionOf_9 (by decide) ?_
  refine lv_iand (pc := 10) hx hb dM_sectionOf_10 ?_
  obtain rfl := sm_i hM
  exact x_retS (pc := 11) C.1 rfl dM_sectionOf_11
theorem kM_sectionOf (l : Launch) (D : va_G) (dA : Nat → ClassId) (h : Nat → Nat) (x1 : Int32) (σ : MS) {r : Int32} (hM : M_sectionOf x1 σ = some r) : KR l D dA yM_sectionOf cM_sectionOf 2 (some .int) rm_sectionOf h σ [.int x1] (some (.int r)) := x_enterR rfl (Nat.le_of_ble_eq_true rfl) (fun p e s m args below meth c A C hW ls hl => bM_sectionOf_0 C x1 σ hM hW ls hl)
def M_addressOf_23 (t0 : Int32) (t1 : Int32) (σ : MS) : Option Int32 :=
  some (t0 + t1)
set_option maxHeartbeats 4000000 in
set_option maxRecDepth 100000 in
theorem bM_addressOf_23  {r : Int32} (C : CxM p s m args meth c cM_addressOf 2 (some .int) D dA A) (t0 : Int32) (t1 : Int32) (σ : MS) (hM : M_addressOf_23  t0 t1 σ = some r) (hW : WdM D dA h A s σ s.heap []) (ls : Array Slot) (hl : lv_has ls 2 []) : W p l e rm_addressOf s m args below meth c s.heap [] 0 0 (MQ below (QS (some (.int r))) args s 0 0 (fun _ => False)) (F0 m 23 ls [.int t1, .int t0]) := by
  have hx := C.1.1
  have hb := C.1.2.1
  have hown := C.1.2.2.2.2.1
  have hT := C.1.2.2.2.2.2.1
  unfold M_addressOf_23 at hM
  refine lv_iadd (pc := 23) hx hb dM_addressOf_23 ?_
  obtain rfl := sm_i hM
  exact x_retS (pc := 24) C.1 rfl dM_addressOf_24
def M_addressOf (x1 : Int32) (σ : MS) : Option Int32 :=
  gd (inB x1 1030) (cr (M_sectionOf  x1 σ) (fun r2 => (if r2 = (1 : Int32) then cr (M_base  σ) (fun r3 => M_addressOf_23  (σ.2 3 x1.toNatClampNeg) r3 σ) else M_addressOf_23  (σ.2 3 x1.toNatClampNeg) (0 : Int32) σ)))
set_option maxHeartbeats 4000000 in
set_option maxRecDepth 100000 in
theorem bM_addressOf_0  {r : Int32} (C : CxM p s m args meth c cM_addressOf 2 (some .int) D dA A) (x1 : Int32) (σ : MS) (hM : M_addressOf  x1 σ = some r) (hW : WdM D dA h A s σ s.heap []) (ls : Array Slot) (hl : lv_has ls 2 [(0, .ref (h 0)), (1, .int x1)]) : W p l e rm_addressOf s m args below meth c s.heap [] 0 0 (MQ below (QS (some (.int r))) args s 0 0 (fun _ => False)) (F0 m 0 ls []) := by
  have hx := C.1.1
  have hb := C.1.2.1
  have hown := C.1.2.2.2.2.1
  have hT := C.1.2.2.2.2.2.1
  unfold M_addressOf at hM
  refine lv_aload_n (pc := 0) hx hb dM_addressOf_0 rfl (lv_at hl 0 rfl) ?_
  refine gM (pc := 1) C hW 11 (by decide) q_1668 rfl rfl dM_addressOf_1 ?_
  refine lv_iload_n (pc := 4) hx hb dM_addressOf_4 rfl (lv_at hl 1 rfl) ?_
  obtain ⟨hg1, hM⟩ := gd_some hM
  refine x_ldI (pc := 5) C hW 7 rfl hg1 dM_addressOf_5 ?_
  refine lv_aload_n (pc := 6) hx hb dM_addressOf_6 rfl (lv_at hl 0 rfl) ?_
  refine lv_iload_n (pc := 7) hx hb dM_addressOf_7 rfl (lv_at hl 1 rfl) ?_
  obtain ⟨r2, hr2, hM⟩ := cr_some hM
  refine x_callRi (pc := 8) C hW (kM_sectionOf l D dA h  x1 _ hr2) gM_sectionOf_694 ⟨rfl, by decide, by decide, by decide +kernel⟩ ⟨rfl, rfl⟩ ⟨by decide, by decide⟩ ⟨by decide, by decide⟩ (As := [.int x1]) (n := 1) rfl hl.1 rfl (Nat.le_of_ble_eq_true rfl) dM_addressOf_8 ?_
  refine lv_iconst (pc := 11) (v := 1) hx hb dM_addressOf_11 (by decide) ?_
  refine lv_icmp_ne (pc := 12) (tgt := 22) hx hb dM_addressOf_12 (by decide) (fun hc => ?_) (fun hc => ?_)
  · replace hM := it_f hc hM
    refine lv_iconst (pc := 22) (v := 0) hx hb dM_addressOf_22 (by decide) ?_
    exact bM_addressOf_23  C  _ _ _ hM hW _ (lv_sub hl [] rfl)
  · replace hM := it_t hc hM
    refine lv_aload_n (pc := 15) hx hb dM_addressOf_15 rfl (lv_at hl 0 rfl) ?_
    obtain ⟨r3, hr3, hM⟩ := cr_some hM
    refine x_callRi (pc := 16) C hW (kM_base l D dA h  _ hr3) gM_base_459 ⟨rfl, by decide, by decide, by decide +kernel⟩ ⟨rfl, rfl⟩ ⟨by decide, by decide⟩ ⟨by decide, by decide⟩ (As := []) (n := 0) rfl hl.1 rfl (Nat.le_of_ble_eq_true rfl) dM_addressOf_16 ?_
    refine lv_goto (pc := 19) (tgt := 23) hx hb dM_addressOf_19 (by decide) ?_
    exact bM_addressOf_23  C  _ _ _ hM hW _ (lv_sub hl [] rfl)
theorem kM_addressOf (l : Launch) (D : va_G) (dA : Nat → ClassId) (h : Nat → Nat) (x1 : Int32) (σ : MS) {r : Int32} (hM : M_addressOf x1 σ = some r) : KR l D dA yM_addressOf cM_addressOf 2 (some .int) rm_addressOf h σ [.int x1] (some (.int r)) := x_enterR rfl (Nat.le_of_ble_eq_true rfl) (fun p e s m args below meth c A C hW ls hl => bM_addressOf_0 C x1 σ hM hW ls hl)
def M_blame_20  (σ : MS) : Option (Int32 × MS) :=
  some ((0 : Int32), σ)
set_option maxHeartbeats 4000000 in
set_option maxRecDepth 100000 in
theorem bM_blame_20  {r : Int32} {σ' : MS} (C : CxM p s m args meth c cM_blame 2 none D dA A)  (σ : MS) (hM : M_blame_20   σ = some (r, σ')) (H : Heap) (locs : List Loc) (hW : WdM D dA h A s σ H locs) (ls : Array Slot) (hl : lv_has ls 2 []) : W p l e rm_blame s m args below meth c H locs 0 0 (MQ below (QM D dA h A σ' none) args s 0 0 A) (F0 m 20 ls []) := by
  have hx := C.1.1
  have hb := C.1.2.1
  have hown := C.1.2.2.2.2.1
  have hT := C.1.2.2.2.2.2.1
  unfold M_blame_20 at hM
  obtain ⟨rfl, rfl⟩ := sm_p hM
  exact x_retMv (pc := 20) C rfl hW dM_blame_20
def M_blame (x1 : Int32) (σ : MS) : Option (Int32 × MS) :=
  (if (σ.1 14) = 0 then bnd (sF σ 14 (x1 + ((16 : Int32) * (σ.1 15)))) (fun σ1 => M_blame_20  σ1) else M_blame_20  σ)
set_option maxHeartbeats 4000000 in
set_option maxRecDepth 100000 in
theorem bM_blame_0  {r : Int32} {σ' : MS} (C : CxM p s m args meth c cM_blame 2 none D dA A) (x1 : Int32) (σ : MS) (hM : M_blame  x1 σ = some (r, σ')) (H : Heap) (locs : List Loc) (hW : WdM D dA h A s σ H locs) (ls : Array Slot) (hl : lv_has ls 2 [(0, .ref (h 0)), (1, .int x1)]) : W p l e rm_blame s m args below meth c H locs 0 0 (MQ below (QM D dA h A σ' none) args s 0 0 A) (F0 m 0 ls []) := by
  have hx := C.1.1
  have hb := C.1.2.1
  have hown := C.1.2.2.2.2.1
  have hT := C.1.2.2.2.2.2.1
  unfold M_blame at hM
  refine lv_aload_n (pc := 0) hx hb dM_blame_0 rfl (lv_at hl 0 rfl) ?_
  refine gM (pc := 1) C hW 24 (by decide) q_1681 rfl rfl dM_blame_1 ?_
  refine lv_if_ne (pc := 4) (tgt := 20) hx hb dM_blame_4 (by decide) (fun hc => ?_) (fun hc => ?_)
  · replace hM := it_f hc hM
    exact bM_blame_20  C   _ hM _ _ hW _ (lv_sub hl [] rfl)
  · replace hM := it_t hc hM
    refine lv_aload_n (pc := 7) hx hb dM_blame_7 rfl (lv_at hl 0 rfl) ?_
    refine lv_iload_n (pc := 8) hx hb dM_blame_8 rfl (lv_at hl 1 rfl) ?_
    refine lv_bipush (pc := 9) (v := 16) hx hb dM_blame_9 (by decide) ?_
    refine lv_aload_n (pc := 11) hx hb dM_blame_11 rfl (lv_at hl 0 rfl) ?_
    refine gM (pc := 12) C hW 25 (by decide) q_1682 rfl rfl dM_blame_12 ?_
    refine lv_imul (pc := 15) hx hb dM_blame_15 ?_
    refine lv_iadd (pc := 16) hx hb dM_blame_16 ?_
    refine pM (pc := 17) (ty := .int) C hW 24 14 (by decide) q_1681 rfl rfl (by decide +kernel) rfl rfl (st_fault dA h _ _) dM_blame_17 (fun H locs hW => ?_)
    obtain ⟨σ1, eσ1, hM⟩ := bnd_some hM
    rw [← eσ1] at hW
    exact bM_blame_20  C   _ hM _ _ hW _ (lv_sub hl [] rfl)
theorem kM_blame (l : Launch) (D : va_G) (dA : Nat → ClassId) (h : Nat → Nat) (x1 : Int32) (σ : MS) {r : Int32} {σ' : MS} (hM : M_blame x1 σ = some (r, σ')) : KM l D dA yM_blame cM_blame 2 none rm_blame h σ [.int x1] none σ' := x_enterM rfl (Nat.le_of_ble_eq_true rfl) (fun p e s m args below meth c A C hW ls hl => bM_blame_0 C x1 σ hM s.heap [] hW ls hl)
def M_bad  (σ : MS) : Option (Int32 × MS) :=
  bnd (sF σ 10 (5 : Int32)) (fun σ1 => bnd (sF σ1 12 (σ1.1 11)) (fun σ2 => some ((0 : Int32), σ2)))
set_option maxHeartbeats 4000000 in
set_option maxRecDepth 100000 in
theorem bM_bad_0  {r : Int32} {σ' : MS} (C : CxM p s m args meth c cM_bad 1 none D dA A)  (σ : MS) (hM : M_bad   σ = some (r, σ')) (H : Heap) (locs : List Loc) (hW : WdM D dA h A s σ H locs) (ls : Array Slot) (hl : lv_has ls 1 [(0, .ref (h 0))]) : W p l e rm_bad s m args below meth c H locs 0 0 (MQ below (QM D dA h A σ' none) args s 0 0 A) (F0 m 0 ls []) := by
  have hx := C.1.1
  have hb := C.1.2.1
  have hown := C.1.2.2.2.2.1
  have hT := C.1.2.2.2.2.2.1
  unfold M_bad at hM
  refine lv_aload_n (pc := 0) hx hb dM_bad_0 rfl (lv_at hl 0 rfl) ?_
  refine lv_iconst (pc := 1) (v := 5) hx hb dM_bad_1 (by decide) ?_
  refine pM (pc := 2) (ty := .int) C hW 20 10 (by decide) q_1677 rfl rfl (by decide +kernel) rfl rfl (st_token dA h _ _) dM_bad_2 (fun H locs hW => ?_)
  obtain ⟨σ1, eσ1, hM⟩ := bnd_some hM
  rw [← eσ1] at hW
  refine lv_aload_n (pc := 5) hx hb dM_bad_5 rfl (lv_at hl 0 rfl) ?_
  refine lv_aload_n (pc := 6) hx hb dM_bad_6 rfl (lv_at hl 0 rfl) ?_
  refine gM (pc := 7) C hW 21 (by decide) q_1678 rfl rfl dM_bad_7 ?_
  refine pM (pc := 10) (ty := .int) C hW 22 12 (by decide) q_1679 rfl rfl (by decide +kernel) rfl rfl (st_to dA h _ _) dM_bad_10 (fun H locs hW => ?_)
  obtain ⟨σ2, eσ2, hM⟩ := bnd_some hM
  rw [← eσ2] at hW
  obtain ⟨rfl, rfl⟩ := sm_p hM
  exact x_retMv (pc := 13) C rfl hW dM_bad_13
theorem kM_bad (l : Launch) (D : va_G) (dA : Nat → ClassId) (h : Nat → Nat)  (σ : MS) {r : Int32} {σ' : MS} (hM : M_bad  σ = some (r, σ')) : KM l D dA yM_bad cM_bad 1 none rm_bad h σ [] none σ' := x_enterM rfl (Nat.le_of_ble_eq_true rfl) (fun p e s m args below meth c A C hW ls hl => bM_bad_0 C  σ hM s.heap [] hW ls hl)
def M_charAt_19 (t0 : Int32) (σ : MS) : Option Int32 :=
  some t0
set_option maxHeartbeats 4000000 in
set_option maxRecDepth 100000 in
theorem bM_charAt_19  {r : Int32} (C : CxM p s m args meth c cM_charAt 2 (some .int) D dA A) (t0 : Int32) (σ : MS) (hM : M_charAt_19  t0 σ = some r) (hW : WdM D dA h A s σ s.heap []) (ls : Array Slot) (hl : lv_has ls 2 []) : W p l e rm_charAt s m args below meth c s.heap [] 0 0 (MQ below (QS (some (.int r))) args s 0 0 (fun _ => False)) (F0 m 19 ls [.int t0]) := by
  have hx := C.1.1
  have hb := C.1.2.1
  have hown := C.1.2.2.2.2.1
  have hT := C.1.2.2.2.2.2.1
  unfold M_charAt_19 at hM
  obtain rfl := sm_i hM
  exact x_retS (pc := 19) C.1 rfl dM_charAt_19
def M_charAt (x1 : Int32) (σ : MS) : Option Int32 :=
  (if (σ.1 2) ≤ x1 then M_charAt_19  (10 : Int32) σ else gd (inB x1 4100) (M_charAt_19  (σ.2 1 x1.toNatClampNeg) σ))
set_option maxHeartbeats 4000000 in
set_option maxRecDepth 100000 in
theorem bM_charAt_0  {r : Int32} (C : CxM p s m args meth c cM_charAt 2 (some .int) D dA A) (x1 : Int32) (σ : MS) (hM : M_charAt  x1 σ = some r) (hW : WdM D dA h A s σ s.heap []) (ls : Array Slot) (hl : lv_has ls 2 [(0, .ref (h 0)), (1, .int x1)]) : W p l e rm_charAt s m args below meth c s.heap [] 0 0 (MQ below (QS (some (.int r))) args s 0 0 (fun _ => False)) (F0 m 0 ls []) := by
  have hx := C.1.1
  have hb := C.1.2.1
  have hown := C.1.2.2.2.2.1
  have hT := C.1.2.2.2.2.2.1
  unfold M_charAt at hM
  refine lv_iload_n (pc := 0) hx hb dM_charAt_0 rfl (lv_at hl 1 rfl) ?_
  refine lv_aload_n (pc := 1) hx hb dM_charAt_1 rfl (lv_at hl 0 rfl) ?_
  refine gM (pc := 2) C hW 7 (by decide) q_1664 rfl rfl dM_charAt_2 ?_
  refine lv_icmp_ge (pc := 5) (tgt := 17) hx hb dM_charAt_5 (by decide) (fun hc => ?_) (fun hc => ?_)
  · replace hM := it_t hc hM
    refine lv_bipush (pc := 17) (v := 10) hx hb dM_charAt_17 (by decide) ?_
    exact bM_charAt_19  C  _ _ hM hW _ (lv_sub hl [] rfl)
  · replace hM := it_f hc hM
    refine lv_aload_n (pc := 8) hx hb dM_charAt_8 rfl (lv_at hl 0 rfl) ?_
    refine gM (pc := 9) C hW 6 (by decide) q_1663 rfl rfl dM_charAt_9 ?_
    refine lv_iload_n (pc := 12) hx hb dM_charAt_12 rfl (lv_at hl 1 rfl) ?_
    obtain ⟨hg1, hM⟩ := gd_some hM
    refine x_ldC (pc := 13) C hW 5 rfl hg1 dM_charAt_13 ?_
    refine lv_goto (pc := 14) (tgt := 19) hx hb dM_charAt_14 (by decide) ?_
    exact bM_charAt_19  C  _ _ hM hW _ (lv_sub hl [] rfl)
theorem kM_charAt (l : Launch) (D : va_G) (dA : Nat → ClassId) (h : Nat → Nat) (x1 : Int32) (σ : MS) {r : Int32} (hM : M_charAt x1 σ = some r) : KR l D dA yM_charAt cM_charAt 2 (some .int) rm_charAt h σ [.int x1] (some (.int r)) := x_enterR rfl (Nat.le_of_ble_eq_true rfl) (fun p e s m args below meth c A C hW ls hl => bM_charAt_0 C x1 σ hM hW ls hl)
def M_isDigit_17 (t0 : Int32) : Option Int32 :=
  gd (isB t0) (some t0)
set_option maxHeartbeats 4000000 in
set_option maxRecDepth 100000 in
theorem bM_isDigit_17  {r : Int32} (C : CxS RM p s m args meth c cM_isDigit 1 (some .boolean)) (t0 : Int32) (hM : M_isDigit_17  t0 = some r) (ls : Array Slot) (hl : lv_has ls 1 []) : W p l e rm_isDigit s m args below meth c s.heap [] 0 0 (MQ below (QS (some (.int r))) args s 0 0 (fun _ => False)) (F0 m 17 ls [.int t0]) := by
  have hx := C.1
  have hb := C.2.1
  have hown := C.2.2.2.2.1
  have hT := C.2.2.2.2.2.1
  unfold M_isDigit_17 at hM
  obtain ⟨hg1, hM⟩ := gd_some hM
  obtain rfl := sm_i hM
  exact x_retSz (pc := 17) C rfl hg1 dM_isDigit_17
def M_isDigit_16  : Option Int32 :=
  M_isDigit_17  (0 : Int32)
set_option maxHeartbeats 4000000 in
set_option maxRecDepth 100000 in
theorem bM_isDigit_16  {r : Int32} (C : CxS RM p s m args meth c cM_isDigit 1 (some .boolean))  (hM : M_isDigit_16   = some r) (ls : Array Slot) (hl : lv_has ls 1 []) : W p l e rm_isDigit s m args below meth c s.heap [] 0 0 (MQ below (QS (some (.int r))) args s 0 0 (fun _ => False)) (F0 m 16 ls []) := by
  have hx := C.1
  have hb := C.2.1
  have hown := C.2.2.2.2.1
  have hT := C.2.2.2.2.2.1
  unfold M_isDigit_16 at hM
  refine lv_iconst (pc := 16) (v := 0) hx hb dM_isDigit_16 (by decide) ?_
  exact bM_isDigit_17  C  _ hM _ (lv_sub hl [] rfl)
def M_isDigit (x0 : Int32) : Option Int32 :=
  (if x0 < (48 : Int32) then M_isDigit_16   else (if (57 : Int32) < x0 then M_isDigit_16   else M_isDigit_17  (1 : Int32)))
set_option maxHeartbeats 4000000 in
set_option maxRecDepth 100000 in
theorem bM_isDigit_0  {r : Int32} (C : CxS RM p s m args meth c cM_isDigit 1 (some .boolean)) (x0 : Int32) (hM : M_isDigit  x0 = some r) (ls : Array Slot) (hl : lv_has ls 1 [(0, .int x0)]) : W p l e rm_isDigit s m args below meth c s.heap [] 0 0 (MQ below (QS (some (.int r))) args s 0 0 (fun _ => False)) (F0 m 0 ls []) := by
  have hx := C.1
  have hb := C.2.1
  have hown := C.2.2.2.2.1
  have hT := C.2.2.2.2.2.1
  unfold M_isDigit at hM
  refine lv_iload_n (pc := 0) hx hb dM_isDigit_0 rfl (lv_at hl 0 rfl) ?_
  refine lv_bipush (pc := 1) (v := 48) hx hb dM_isDigit_1 (by decide) ?_
  refine lv_icmp_lt (pc := 3) (tgt := 16) hx hb dM_isDigit_3 (by decide) (fun hc => ?_) (fun hc => ?_)
  · replace hM := it_t hc hM
    exact bM_isDigit_16  C   hM _ (lv_sub hl [] rfl)
  · replace hM := it_f hc hM
    refine lv_iload_n (pc := 6) hx hb dM_isDigit_6 rfl (lv_at hl 0 rfl) ?_
    refine lv_bipush (pc := 7) (v := 57) hx hb dM_isDigit_7 (by decide) ?_
    refine lv_icmp_gt (pc := 9) (tgt := 16) hx hb dM_isDigit_9 (by decide) (fun hc => ?_) (fun hc => ?_)
    · replace hM := it_t hc hM
      exact bM_isDigit_16  C   hM _ (lv_sub hl [] rfl)
    · replace hM := it_f hc hM
      refine lv_iconst (pc := 12) (v := 1) hx hb dM_isDigit_12 (by decide) ?_
      refine lv_goto (pc := 13) (tgt := 17) hx hb dM_isDigit_13 (by decide) ?_
      exact bM_isDigit_17  C  _ hM _ (lv_sub hl [] rfl)
theorem kM_isDigit (l : Launch) (x0 : Int32) {r : Int32} (hM : M_isDigit x0 = some r) : KS l yM_isDigit cM_isDigit 1 (some .boolean) rm_isDigit [.int x0] (some (.int r)) := x_enterS (by decide +kernel) (Nat.le_of_ble_eq_true rfl) (fun p e s m args below meth c C ls hl => bM_isDigit_0 C x0 hM ls hl)
def M_isLetter_29 (t0 : Int32) : Option Int32 :=
  gd (isB t0) (some t0)
set_option maxHeartbeats 4000000 in
set_option maxRecDepth 100000 in
theorem bM_isLetter_29  {r : Int32} (C : CxS RM p s m args meth c cM_isLetter 1 (some .boolean)) (t0 : Int32) (hM : M_isLetter_29  t0 = some r) (ls : Array Slot) (hl : lv_has ls 1 []) : W p l e rm_isLetter s m args below meth c s.heap [] 0 0 (MQ below (QS (some (.int r))) args s 0 0 (fun _ => False)) (F0 m 29 ls [.int t0]) := by
  have hx := C.1
  have hb := C.2.1
  have hown := C.2.2.2.2.1
  have hT := C.2.2.2.2.2.1
  unfold M_isLetter_29 at hM
  obtain ⟨hg1, hM⟩ := gd_some hM
  obtain rfl := sm_i hM
  exact x_retSz (pc := 29) C rfl hg1 dM_isLetter_29
def M_isLetter_28  : Option Int32 :=
  M_isLetter_29  (0 : Int32)
set_option maxHeartbeats 4000000 in
set_option maxRecDepth 100000 in
theorem bM_isLetter_28  {r : Int32} (C : CxS RM p s m args meth c cM_isLetter 1 (some .boolean))  (hM : M_isLetter_28   = some r) (ls : Array Slot) (hl : lv_has ls 1 []) : W p l e rm_isLetter s m args below meth c s.heap [] 0 0 (MQ below (QS (some (.int r))) args s 0 0 (fun _ => False)) (F0 m 28 ls []) := by
  have hx := C.1
  have hb := C.2.1
  have hown := C.2.2.2.2.1
  have hT := C.2.2.2.2.2.1
  unfold M_isLetter_28 at hM
  refine lv_iconst (pc := 28) (v := 0) hx hb dM_isLetter_28 (by decide) ?_
  exact bM_isLetter_29  C  _ hM _ (lv_sub hl [] rfl)
def M_isLetter_24  : Option Int32 :=
  M_isLetter_29  (1 : Int32)
set_option maxHeartbeats 4000000 in
set_option maxRecDepth 100000 in
theorem bM_isLetter_24  {r : Int32} (C : CxS RM p s m args meth c cM_isLetter 1 (some .boolean))  (hM : M_isLetter_24   = some r) (ls : Array Slot) (hl : lv_has ls 1 []) : W p l e rm_isLetter s m args below meth c s.heap [] 0 0 (MQ below (QS (some (.int r))) args s 0 0 (fun _ => False)) (F0 m 24 ls []) := by
  have hx := C.1
  have hb := C.2.1
  have hown := C.2.2.2.2.1
  have hT := C.2.2.2.2.2.1
  unfold M_isLetter_24 at hM
  refine lv_iconst (pc := 24) (v := 1) hx hb dM_isLetter_24 (by decide) ?_
  refine lv_goto (pc := 25) (tgt := 29) hx hb dM_isLetter_25 (by decide) ?_
  exact bM_isLetter_29  C  _ hM _ (lv_sub hl [] rfl)
def M_isLetter_12 (x0 : Int32) : Option Int32 :=
  (if x0 < (65 : Int32) then M_isLetter_28   else (if (90 : Int32) < x0 then M_isLetter_28   else M_isLetter_24  ))
set_option maxHeartbeats 4000000 in
set_option maxRecDepth 100000 in
theorem bM_isLetter_12  {r : Int32} (C : CxS RM p s m args meth c cM_isLetter 1 (some .boolean)) (x0 : Int32) (hM : M_isLetter_12  x0 = some r) (ls : Array Slot) (hl : lv_has ls 1 [(0, .int x0)]) : W p l e rm_isLetter s m args below meth c s.heap [] 0 0 (MQ below (QS (some (.int r))) args s 0 0 (fun _ => False)) (F0 m 12 ls []) := by
  have hx := C.1
  have hb := C.2.1
  have hown := C.2.2.2.2.1
  have hT := C.2.2.2.2.2.1
  unfold M_isLetter_12 at hM
  refine lv_iload_n (pc := 12) hx hb dM_isLetter_12 rfl (lv_at hl 0 rfl) ?_
  refine lv_bipush (pc := 13) (v := 65) hx hb dM_isLetter_13 (by decide) ?_
  refine lv_icmp_lt (pc := 15) (tgt := 28) hx hb dM_isLetter_15 (by decide) (fun hc => ?_) (fun hc => ?_)
  · replace hM := it_t hc hM
    exact bM_isLetter_28  C   hM _ (lv_sub hl [] rfl)
  · replace hM := it_f hc hM
    refine lv_iload_n (pc := 18) hx hb dM_isLetter_18 rfl (lv_at hl 0 rfl) ?_
    refine lv_bipush (pc := 19) (v := 90) hx hb dM_isLetter_19 (by decide) ?_
    refine lv_icmp_gt (pc := 21) (tgt := 28) hx hb dM_isLetter_21 (by decide) (fun hc => ?_) (fun hc => ?_)
    · replace hM := it_t hc hM
      exact bM_isLetter_28  C   hM _ (lv_sub hl [] rfl)
    · replace hM := it_f hc hM
      exact bM_isLetter_24  C   hM _ (lv_sub hl [] rfl)
def M_isLetter (x0 : Int32) : Option Int32 :=
  (if x0 < (97 : Int32) then M_isLetter_12  x0 else (if x0 ≤ (122 : Int32) then M_isLetter_24   else M_isLetter_12  x0))
set_option maxHeartbeats 4000000 in
set_option maxRecDepth 100000 in
theorem bM_isLetter_0  {r : Int32} (C : CxS RM p s m args meth c cM_isLetter 1 (some .boolean)) (x0 : Int32) (hM : M_isLetter  x0 = some r) (ls : Array Slot) (hl : lv_has ls 1 [(0, .int x0)]) : W p l e rm_isLetter s m args below meth c s.heap [] 0 0 (MQ below (QS (some (.int r))) args s 0 0 (fun _ => False)) (F0 m 0 ls []) := by
  have hx := C.1
  have hb := C.2.1
  have hown := C.2.2.2.2.1
  have hT := C.2.2.2.2.2.1
  unfold M_isLetter at hM
  refine lv_iload_n (pc := 0) hx hb dM_isLetter_0 rfl (lv_at hl 0 rfl) ?_
  refine lv_bipush (pc := 1) (v := 97) hx hb dM_isLetter_1 (by decide) ?_
  refine lv_icmp_lt (pc := 3) (tgt := 12) hx hb dM_isLetter_3 (by decide) (fun hc => ?_) (fun hc => ?_)
  · replace hM := it_t hc hM
    exact bM_isLetter_12  C  _ hM _ (lv_sub hl [0] rfl)
  · replace hM := it_f hc hM
    refine lv_iload_n (pc := 6) hx hb dM_isLetter_6 rfl (lv_at hl 0 rfl) ?_
    refine lv_bipush (pc := 7) (v := 122) hx hb dM_isLetter_7 (by decide) ?_
    refine lv_icmp_le (pc := 9) (tgt := 24) hx hb dM_isLetter_9 (by decide) (fun hc => ?_) (fun hc => ?_)
    · replace hM := it_t hc hM
      exact bM_isLetter_24  C   hM _ (lv_sub hl [] rfl)
    · replace hM := it_f hc hM
      exact bM_isLetter_12  C  _ hM _ (lv_sub hl [0] rfl)
theorem kM_isLetter (l : Launch) (x0 : Int32) {r : Int32} (hM : M_isLetter x0 = some r) : KS l yM_isLetter cM_isLetter 1 (some .boolean) rm_isLetter [.int x0] (some (.int r)) := x_enterS (by decide +kernel) (Nat.le_of_ble_eq_true rfl) (fun p e s m args below meth c C ls hl => bM_isLetter_0 C x0 hM ls hl)
def M_isPlain_37 (t0 : Int32) : Option Int32 :=
  gd (isB t0) (some t0)
set_option maxHeartbeats 4000000 in
set_option maxRecDepth 100000 in
theorem bM_isPlain_37  {r : Int32} (C : CxS RM p s m args meth c cM_isPlain 1 (some .boolean)) (t0 : Int32) (hM : M_isPlain_37  t0 = some r) (ls : Array Slot) (hl : lv_has ls 1 []) : W p l e rm_isPlain s m args below meth c s.heap [] 0 0 (MQ below (QS (some (.int r))) args s 0 0 (fun _ => False)) (F0 m 37 ls [.int t0]) := by
  have hx := C.1
  have hb := C.2.1
  have hown := C.2.2.2.2.1
  have hT := C.2.2.2.2.2.1
  unfold M_isPlain_37 at hM
  obtain ⟨hg1, hM⟩ := gd_some hM
  obtain rfl := sm_i hM
  exact x_retSz (pc := 37) C rfl hg1 dM_isPlain_37
def M_isPlain_32  : Option Int32 :=
  M_isPlain_37  (1 : Int32)
set_option maxHeartbeats 4000000 in
set_option maxRecDepth 100000 in
theorem bM_isPlain_32  {r : Int32} (C : CxS RM p s m args meth c cM_isPlain 1 (some .boolean))  (hM : M_isPlain_32   = some r) (ls : Array Slot) (hl : lv_has ls 1 []) : W p l e rm_isPlain s m args below meth c s.heap [] 0 0 (MQ below (QS (some (.int r))) args s 0 0 (fun _ => False)) (F0 m 32 ls []) := by
  have hx := C.1
  have hb := C.2.1
  have hown := C.2.2.2.2.1
  have hT := C.2.2.2.2.2.1
  unfold M_isPlain_32 at hM
  refine lv_iconst (pc := 32) (v := 1) hx hb dM_isPlain_32 (by decide) ?_
  refine lv_goto (pc := 33) (tgt := 37) hx hb dM_isPlain_33 (by decide) ?_
  exact bM_isPlain_37  C  _ hM _ (lv_sub hl [] rfl)
def M_isPlain (x0 : Int32) : Option Int32 :=
  cr (M_isDigit  x0) (fun r1 => (if r1 = 0 then cr (M_isLetter  x0) (fun r2 => (if r2 = 0 then (if x0 = (95 : Int32) then M_isPlain_32   else (if x0 = (46 : Int32) then M_isPlain_32   else (if x0 = (36 : Int32) then M_isPlain_32   else M_isPlain_37  (0 : Int32)))) else M_isPlain_32  )) else M_isPlain_32  ))
set_option maxHeartbeats 4000000 in
set_option maxRecDepth 100000 in
theorem bM_isPlain_0  {r : Int32} (C : CxS RM p s m args meth c cM_isPlain 1 (some .boolean)) (x0 : Int32) (hM : M_isPlain  x0 = some r) (ls : Array Slot) (hl : lv_has ls 1 [(0, .int x0)]) : W p l e rm_isPlain s m args below meth c s.heap [] 0 0 (MQ below (QS (some (.int r))) args s 0 0 (fun _ => False)) (F0 m 0 ls []) := by
  have hx := C.1
  have hb := C.2.1
  have hown := C.2.2.2.2.1
  have hT := C.2.2.2.2.2.1
  unfold M_isPlain at hM
  refine lv_iload_n (pc := 0) hx hb dM_isPlain_0 rfl (lv_at hl 0 rfl) ?_
  obtain ⟨r1, hr1, hM⟩ := cr_some hM
  refine x_callSi (pc := 1) C (kM_isDigit l  x0 hr1) gM_isDigit_361 ⟨rfl, by decide, by decide, by decide +kernel⟩ ⟨rfl, rfl⟩ ⟨by decide, by decide⟩ ⟨by decide, by decide⟩ (As := [.int x0]) (n := 1) rfl hl.1 rfl (Nat.le_of_ble_eq_true rfl) dM_isPlain_1 ?_
  refine lv_if_ne (pc := 4) (tgt := 32) hx hb dM_isPlain_4 (by decide) (fun hc => ?_) (fun hc => ?_)
  · replace hM := it_f hc hM
    exact bM_isPlain_32  C   hM _ (lv_sub hl [] rfl)
  · replace hM := it_t hc hM
    refine lv_iload_n (pc := 7) hx hb dM_isPlain_7 rfl (lv_at hl 0 rfl) ?_
    obtain ⟨r2, hr2, hM⟩ := cr_some hM
    refine x_callSi (pc := 8) C (kM_isLetter l  x0 hr2) gM_isLetter_365 ⟨rfl, by decide, by decide, by decide +kernel⟩ ⟨rfl, rfl⟩ ⟨by decide, by decide⟩ ⟨by decide, by decide⟩ (As := [.int x0]) (n := 1) rfl hl.1 rfl (Nat.le_of_ble_eq_true rfl) dM_isPlain_8 ?_
    refine lv_if_ne (pc := 11) (tgt := 32) hx hb dM_isPlain_11 (by decide) (fun hc => ?_) (fun hc => ?_)
    · replace hM := it_f hc hM
      exact bM_isPlain_32  C   hM _ (lv_sub hl [] rfl)
    · replace hM := it_t hc hM
      refine lv_iload_n (pc := 14) hx hb dM_isPlain_14 rfl (lv_at hl 0 rfl) ?_
      refine lv_bipush (pc := 15) (v := 95) hx hb dM_isPlain_15 (by decide) ?_
      refine lv_icmp_eq (pc := 17) (tgt := 32) hx hb dM_isPlain_17 (by decide) (fun hc => ?_) (fun hc => ?_)
      · replace hM := it_t hc hM
        exact bM_isPlain_32  C   hM _ (lv_sub hl [] rfl)
      · replace hM := it_f hc hM
        refine lv_iload_n (pc := 20) hx hb dM_isPlain_20 rfl (lv_at hl 0 rfl) ?_
        refine lv_bipush (pc := 21) (v := 46) hx hb dM_isPlain_21 (by decide) ?_
        refine lv_icmp_eq (pc := 23) (tgt := 32) hx hb dM_isPlain_23 (by decide) (fun hc => ?_) (fun hc => ?_)
        · replace hM := it_t hc hM
          exact bM_isPlain_32  C   hM _ (lv_sub hl [] rfl)
        · replace hM := it_f hc hM
          refine lv_iload_n (pc := 26) hx hb dM_isPlain_26 rfl (lv_at hl 0 rfl) ?_
          refine lv_bipush (pc := 27) (v := 36) hx hb dM_isPlain_27 (by decide) ?_
          refine lv_icmp_ne (pc := 29) (tgt := 36) hx hb dM_isPlain_29 (by decide) (fun hc => ?_) (fun hc => ?_)
          · replace hM := it_f hc hM
            refine lv_iconst (pc := 36) (v := 0) hx hb dM_isPlain_36 (by decide) ?_
            exact bM_isPlain_37  C  _ hM _ (lv_sub hl [] rfl)
          · replace hM := it_t hc hM
            exact bM_isPlain_32  C   hM _ (lv_sub hl [] rfl)
theorem kM_isPlain (l : Launch) (x0 : Int32) {r : Int32} (hM : M_isPlain x0 = some r) : KS l yM_isPlain cM_isPlain 1 (some .boolean) rm_isPlain [.int x0] (some (.int r)) := x_enterS (by decide +kernel) (Nat.le_of_ble_eq_true rfl) (fun p e s m args below meth c C ls hl => bM_isPlain_0 C x0 hM ls hl)
def M_shown_24  (σ : MS) : Option (Int32 × MS) :=
  some ((-1 : Int32), σ)
set_option maxHeartbeats 4000000 in
set_option maxRecDepth 100000 in
theorem bM_shown_24  {r : Int32} {σ' : MS} (C : CxM p s m args meth c cM_shown 5 (some .int) D dA A)  (σ : MS) (hM : M_shown_24   σ = some (r, σ')) (H : Heap) (locs : List Loc) (hW : WdM D dA h A s σ H locs) (ls : Array Slot) (hl : lv_has ls 5 []) : W p l e rm_shown s m args below meth c H locs 0 0 (MQ below (QM D dA h A σ' (some (.int r))) args s 0 0 A) (F0 m 24 ls []) := by
  have hx := C.1.1
  have hb := C.1.2.1
  have hown := C.1.2.2.2.2.1
  have hT := C.1.2.2.2.2.2.1
  unfold M_shown_24 at hM
  refine lv_iconst (pc := 24) (v := -1) hx hb dM_shown_24 (by decide) ?_
  obtain ⟨rfl, rfl⟩ := sm_p hM
  exact x_retMi (pc := 25) C rfl hW dM_shown_25
def M_shown_112 (t0 : Int32) (σ : MS) : Option (Int32 × MS) :=
  some (t0, σ)
set_option maxHeartbeats 4000000 in
set_option maxRecDepth 100000 in
theorem bM_shown_112  {r : Int32} {σ' : MS} (C : CxM p s m args meth c cM_shown 5 (some .int) D dA A) (t0 : Int32) (σ : MS) (hM : M_shown_112  t0 σ = some (r, σ')) (H : Heap) (locs : List Loc) (hW : WdM D dA h A s σ H locs) (ls : Array Slot) (hl : lv_has ls 5 []) : W p l e rm_shown s m args below meth c H locs 0 0 (MQ below (QM D dA h A σ' (some (.int r))) args s 0 0 A) (F0 m 112 ls [.int t0]) := by
  have hx := C.1.1
  have hb := C.1.2.1
  have hown := C.1.2.2.2.2.1
  have hT := C.1.2.2.2.2.2.1
  unfold M_shown_112 at hM
  obtain ⟨rfl, rfl⟩ := sm_p hM
  exact x_retMi (pc := 112) C rfl hW dM_shown_112
def M_shown_106 (x4 : Int32) (σ : MS) : Option (Int32 × MS) :=
  M_shown_112  x4 σ
set_option maxHeartbeats 4000000 in
set_option maxRecDepth 100000 in
theorem bM_shown_106  {r : Int32} {σ' : MS} (C : CxM p s m args meth c cM_shown 5 (some .int) D dA A) (x4 : Int32) (σ : MS) (hM : M_shown_106  x4 σ = some (r, σ')) (H : Heap) (locs : List Loc) (hW : WdM D dA h A s σ H locs) (ls : Array Slot) (hl : lv_has ls 5 [(4, .int x4)]) : W p l e rm_shown s m args below meth c H locs 0 0 (MQ below (QM D dA h A σ' (some (.int r))) args s 0 0 A) (F0 m 106 ls []) := by
  have hx := C.1.1
  have hb := C.1.2.1
  have hown := C.1.2.2.2.2.1
  have hT := C.1.2.2.2.2.2.1
  unfold M_shown_106 at hM
  refine lv_iload (pc := 106) hx hb dM_shown_106 (lv_at hl 0 rfl) ?_
  refine lv_goto (pc := 108) (tgt := 112) hx hb dM_shown_108 (by decide) ?_
  exact bM_shown_112  C  _ _ hM _ _ hW _ (lv_sub hl [] rfl)
def M_shown (x1 : Int32) (x2 : Int32) (σ : MS) : Option (Int32 × MS) :=
  cr (M_charAt  x1 σ) (fun r1 => bnd (sF σ 12 (x1 + (1 : Int32))) (fun σ2 => (if r1 = (10 : Int32) then M_shown_24  σ2 else (if r1 = x2 then M_shown_24  σ2 else (if r1 = (92 : Int32) then cr (M_charAt  (x1 + (1 : Int32)) σ2) (fun r3 => bnd (sF σ2 12 (x1 + (2 : Int32))) (fun σ4 => (if r3 = (110 : Int32) then M_shown_112  (10 : Int32) σ4 else (if r3 = (116 : Int32) then M_shown_112  (9 : Int32) σ4 else (if r3 = (48 : Int32) then M_shown_112  (0 : Int32) σ4 else (if r3 = (92 : Int32) then M_shown_106  r3 σ4 else (if r3 = (39 : Int32) then M_shown_106  r3 σ4 else (if r3 = (34 : Int32) then M_shown_106  r3 σ4 else M_shown_112  (-1 : Int32) σ4)))))))) else some (r1, σ2))))))
set_option maxHeartbeats 4000000 in
set_option maxRecDepth 100000 in
theorem bM_shown_0  {r : Int32} {σ' : MS} (C : CxM p s m args meth c cM_shown 5 (some .int) D dA A) (x1 : Int32) (x2 : Int32) (σ : MS) (hM : M_shown  x1 x2 σ = some (r, σ')) (H : Heap) (locs : List Loc) (hW : WdM D dA h A s σ H locs) (ls : Array Slot) (hl : lv_has ls 5 [(0, .ref (h 0)), (1, .int x1), (2, .int x2)]) : W p l e rm_shown s m args below meth c H locs 0 0 (MQ below (QM D dA h A σ' (some (.int r))) args s 0 0 A) (F0 m 0 ls []) := by
  have hx := C.1.1
  have hb := C.1.2.1
  have hown := C.1.2.2.2.2.1
  have hT := C.1.2.2.2.2.2.1
  unfold M_shown at hM
  refine lv_aload_n (pc := 0) hx hb dM_shown_0 rfl (lv_at hl 0 rfl) ?_
  refine lv_iload_n (pc := 1) hx hb dM_shown_1 rfl (lv_at hl 1 rfl) ?_
  obtain ⟨r1, hr1, hM⟩ := cr_some hM
  refine x_callRi (pc := 2) C hW (kM_charAt l D dA h  x1 _ hr1) gM_charAt_368 ⟨rfl, by decide, by decide, by decide +kernel⟩ ⟨rfl, rfl⟩ ⟨by decide, by decide⟩ ⟨by decide, by decide⟩ (As := [.int x1]) (n := 1) rfl hl.1 rfl (Nat.le_of_ble_eq_true rfl) dM_shown_2 ?_
  refine lv_istore_n (pc := 5) (lv' := [(3, .int r1), (0, .ref (h 0)), (1, .int x1), (2, .int x2)]) hx hb dM_shown_5 rfl hl (by decide) rfl (fun ls hl => ?_)
  refine lv_aload_n (pc := 6) hx hb dM_shown_6 rfl (lv_at hl 1 rfl) ?_
  refine lv_iload_n (pc := 7) hx hb dM_shown_7 rfl (lv_at hl 2 rfl) ?_
  refine lv_iconst (pc := 8) (v := 1) hx hb dM_shown_8 (by decide) ?_
  refine lv_iadd (pc := 9) hx hb dM_shown_9 ?_
  refine pM (pc := 10) (ty := .int) C hW 22 12 (by decide) q_1679 rfl rfl (by decide +kernel) rfl rfl (st_to dA h _ _) dM_shown_10 (fun H locs hW => ?_)
  obtain ⟨σ2, eσ2, hM⟩ := bnd_some hM
  rw [← eσ2] at hW
  refine lv_iload_n (pc := 13) hx hb dM_shown_13 rfl (lv_at hl 0 rfl) ?_
  refine lv_bipush (pc := 14) (v := 10) hx hb dM_shown_14 (by decide) ?_
  refine lv_icmp_eq (pc := 16) (tgt := 24) hx hb dM_shown_16 (by decide) (fun hc => ?_) (fun hc => ?_)
  · replace hM := it_t hc hM
    exact bM_shown_24  C   _ hM _ _ hW _ (lv_sub hl [] rfl)
  · replace hM := it_f hc hM
    refine lv_iload_n (pc := 19) hx hb dM_shown_19 rfl (lv_at hl 0 rfl) ?_
    refine lv_iload_n (pc := 20) hx hb dM_shown_20 rfl (lv_at hl 3 rfl) ?_
    refine lv_icmp_ne (pc := 21) (tgt := 26) hx hb dM_shown_21 (by decide) (fun hc => ?_) (fun hc => ?_)
    · replace hM := it_f hc hM
      refine lv_iload_n (pc := 26) hx hb dM_shown_26 rfl (lv_at hl 0 rfl) ?_
      refine lv_bipush (pc := 27) (v := 92) hx hb dM_shown_27 (by decide) ?_
      refine lv_icmp_eq (pc := 29) (tgt := 34) hx hb dM_shown_29 (by decide) (fun hc => ?_) (fun hc => ?_)
      · replace hM := it_t hc hM
        refine lv_aload_n (pc := 34) hx hb dM_shown_34 rfl (lv_at hl 1 rfl) ?_
        refine lv_iload_n (pc := 35) hx hb dM_shown_35 rfl (lv_at hl 2 rfl) ?_
        refine lv_iconst (pc := 36) (v := 1) hx hb dM_shown_36 (by decide) ?_
        refine lv_iadd (pc := 37) hx hb dM_shown_37 ?_
        obtain ⟨r3, hr3, hM⟩ := cr_some hM
        refine x_callRi (pc := 38) C hW (kM_charAt l D dA h  (x1 + (1 : Int32)) _ hr3) gM_charAt_368 ⟨rfl, by decide, by decide, by decide +kernel⟩ ⟨rfl, rfl⟩ ⟨by decide, by decide⟩ ⟨by decide, by decide⟩ (As := [.int (x1 + (1 : Int32))]) (n := 1) rfl hl.1 rfl (Nat.le_of_ble_eq_true rfl) dM_shown_38 ?_
        refine lv_istore (pc := 41) (lv' := [(4, .int r3), (3, .int r1), (0, .ref (h 0)), (1, .int x1), (2, .int x2)]) hx hb dM_shown_41 hl (by decide) rfl (fun ls hl => ?_)
        refine lv_aload_n (pc := 43) hx hb dM_shown_43 rfl (lv_at hl 2 rfl) ?_
        refine lv_iload_n (pc := 44) hx hb dM_shown_44 rfl (lv_at hl 3 rfl) ?_
        refine lv_iconst (pc := 45) (v := 2) hx hb dM_shown_45 (by decide) ?_
        refine lv_iadd (pc := 46) hx hb dM_shown_46 ?_
        refine pM (pc := 47) (ty := .int) C hW 22 12 (by decide) q_1679 rfl rfl (by decide +kernel) rfl rfl (st_to dA h _ _) dM_shown_47 (fun H locs hW => ?_)
        obtain ⟨σ4, eσ4, hM⟩ := bnd_some hM
        rw [← eσ4] at hW
        refine lv_iload (pc := 50) hx hb dM_shown_50 (lv_at hl 0 rfl) ?_
        refine lv_bipush (pc := 52) (v := 110) hx hb dM_shown_52 (by decide) ?_
        refine lv_icmp_ne (pc := 54) (tgt := 62) hx hb dM_shown_54 (by decide) (fun hc => ?_) (fun hc => ?_)
        · replace hM := it_f hc hM
          refine lv_iload (pc := 62) hx hb dM_shown_62 (lv_at hl 0 rfl) ?_
          refine lv_bipush (pc := 64) (v := 116) hx hb dM_shown_64 (by decide) ?_
          refine lv_icmp_ne (pc := 66) (tgt := 74) hx hb dM_shown_66 (by decide) (fun hc => ?_) (fun hc => ?_)
          · replace hM := it_f hc hM
            refine lv_iload (pc := 74) hx hb dM_shown_74 (lv_at hl 0 rfl) ?_
            refine lv_bipush (pc := 76) (v := 48) hx hb dM_shown_76 (by decide) ?_
            refine lv_icmp_ne (pc := 78) (tgt := 85) hx hb dM_shown_78 (by decide) (fun hc => ?_) (fun hc => ?_)
            · replace hM := it_f hc hM
              refine lv_iload (pc := 85) hx hb dM_shown_85 (lv_at hl 0 rfl) ?_
              refine lv_bipush (pc := 87) (v := 92) hx hb dM_shown_87 (by decide) ?_
              refine lv_icmp_eq (pc := 89) (tgt := 106) hx hb dM_shown_89 (by decide) (fun hc => ?_) (fun hc => ?_)
              · replace hM := it_t hc hM
                exact bM_shown_106  C  _ _ hM _ _ hW _ (lv_sub hl [0] rfl)
              · replace hM := it_f hc hM
                refine lv_iload (pc := 92) hx hb dM_shown_92 (lv_at hl 0 rfl) ?_
                refine lv_bipush (pc := 94) (v := 39) hx hb dM_shown_94 (by decide) ?_
                refine lv_icmp_eq (pc := 96) (tgt := 106) hx hb dM_shown_96 (by decide) (fun hc => ?_) (fun hc => ?_)
                · replace hM := it_t hc hM
                  exact bM_shown_106  C  _ _ hM _ _ hW _ (lv_sub hl [0] rfl)
                · replace hM := it_f hc hM
                  refine lv_iload (pc := 99) hx hb dM_shown_99 (lv_at hl 0 rfl) ?_
                  refine lv_bipush (pc := 101) (v := 34) hx hb dM_shown_101 (by decide) ?_
                  refine lv_icmp_ne (pc := 103) (tgt := 111) hx hb dM_shown_103 (by decide) (fun hc => ?_) (fun hc => ?_)
                  · replace hM := it_f hc hM
                    refine lv_iconst (pc := 111) (v := -1) hx hb dM_shown_111 (by decide) ?_
                    exact bM_shown_112  C  _ _ hM _ _ hW _ (lv_sub hl [] rfl)
                  · replace hM := it_t hc hM
                    exact bM_shown_106  C  _ _ hM _ _ hW _ (lv_sub hl [0] rfl)
            · replace hM := it_t hc hM
              refine lv_iconst (pc := 81) (v := 0) hx hb dM_shown_81 (by decide) ?_
              refine lv_goto (pc := 82) (tgt := 112) hx hb dM_shown_82 (by decide) ?_
              exact bM_shown_112  C  _ _ hM _ _ hW _ (lv_sub hl [] rfl)
          · replace hM := it_t hc hM
            refine lv_bipush (pc := 69) (v := 9) hx hb dM_shown_69 (by decide) ?_
            refine lv_goto (pc := 71) (tgt := 112) hx hb dM_shown_71 (by decide) ?_
            exact bM_shown_112  C  _ _ hM _ _ hW _ (lv_sub hl [] rfl)
        · replace hM := it_t hc hM
          refine lv_bipush (pc := 57) (v := 10) hx hb dM_shown_57 (by decide) ?_
          refine lv_goto (pc := 59) (tgt := 112) hx hb dM_shown_59 (by decide) ?_
          exact bM_shown_112  C  _ _ hM _ _ hW _ (lv_sub hl [] rfl)
      · replace hM := it_f hc hM
        refine lv_iload_n (pc := 32) hx hb dM_shown_32 rfl (lv_at hl 0 rfl) ?_
        obtain ⟨rfl, rfl⟩ := sm_p hM
        exact x_retMi (pc := 33) C rfl hW dM_shown_33
    · replace hM := it_t hc hM
      exact bM_shown_24  C   _ hM _ _ hW _ (lv_sub hl [] rfl)
theorem kM_shown (l : Launch) (D : va_G) (dA : Nat → ClassId) (h : Nat → Nat) (x1 : Int32) (x2 : Int32) (σ : MS) {r : Int32} {σ' : MS} (hM : M_shown x1 x2 σ = some (r, σ')) : KM l D dA yM_shown cM_shown 5 (some .int) rm_shown h σ [.int x1, .int x2] (some (.int r)) σ' := x_enterM rfl (Nat.le_of_ble_eq_true rfl) (fun p e s m args below meth c A C hW ls hl => bM_shown_0 C x1 x2 σ hM s.heap [] hW ls hl)
def M_character_79  (σ : MS) : Option (Int32 × MS) :=
  some ((0 : Int32), σ)
set_option maxHeartbeats 4000000 in
set_option maxRecDepth 100000 in
theorem bM_character_79  {r : Int32} {σ' : MS} (C : CxM p s m args meth c cM_character 2 none D dA A)  (σ : MS) (hM : M_character_79   σ = some (r, σ')) (H : Heap) (locs : List Loc) (hW : WdM D dA h A s σ H locs) (ls : Array Slot) (hl : lv_has ls 2 []) : W p l e rm_character s m args below meth c H locs 0 0 (MQ below (QM D dA h A σ' none) args s 0 0 A) (F0 m 79 ls []) := by
  have hx := C.1.1
  have hb := C.1.2.1
  have hown := C.1.2.2.2.2.1
  have hT := C.1.2.2.2.2.2.1
  unfold M_character_79 at hM
  obtain ⟨rfl, rfl⟩ := sm_p hM
  exact x_retMv (pc := 79) C rfl hW dM_character_79
def M_character_75  (σ : MS) : Option (Int32 × MS) :=
  cl (M_bad  σ) (fun r1 σ2 => M_character_79  σ2)
set_option maxHeartbeats 4000000 in
set_option maxRecDepth 100000 in
theorem bM_character_75  {r : Int32} {σ' : MS} (C : CxM p s m args meth c cM_character 2 none D dA A)  (σ : MS) (hM : M_character_75   σ = some (r, σ')) (H : Heap) (locs : List Loc) (hW : WdM D dA h A s σ H locs) (ls : Array Slot) (hl : lv_has ls 2 [(0, .ref (h 0))]) : W p l e rm_character s m args below meth c H locs 0 0 (MQ below (QM D dA h A σ' none) args s 0 0 A) (F0 m 75 ls []) := by
  have hx := C.1.1
  have hb := C.1.2.1
  have hown := C.1.2.2.2.2.1
  have hT := C.1.2.2.2.2.2.1
  unfold M_character_75 at hM
  refine lv_aload_n (pc := 75) hx hb dM_character_75 rfl (lv_at hl 0 rfl) ?_
  obtain ⟨r1, σ2, hr1, hM⟩ := cl_some hM
  refine x_callMv (pc := 76) C hW (kM_bad l D dA h  _ hr1) gM_bad_393 ⟨rfl, by decide, by decide, by decide +kernel⟩ ⟨rfl, rfl⟩ ⟨by decide, by decide⟩ ⟨by decide, by decide⟩ (As := []) (n := 0) rfl hl.1 rfl (Nat.le_of_ble_eq_true rfl) dM_character_76 (fun H locs hW => ?_)
  exact bM_character_79  C   _ hM _ _ hW _ (lv_sub hl [] rfl)
def M_character_46 (t0 : Int32) (σ : MS) : Option (Int32 × MS) :=
  bnd (sF σ 12 ((σ.1 12) + (1 : Int32))) (fun σ1 => (if t0 = 0 then M_character_75  σ1 else cr (M_charAt  (σ1.1 12) σ1) (fun r2 => cr (M_isPlain  r2) (fun r3 => (if r3 = 0 then M_character_79  σ1 else M_character_75  σ1)))))
set_option maxHeartbeats 4000000 in
set_option maxRecDepth 100000 in
theorem bM_character_46  {r : Int32} {σ' : MS} (C : CxM p s m args meth c cM_character 2 none D dA A) (t0 : Int32) (σ : MS) (hM : M_character_46  t0 σ = some (r, σ')) (H : Heap) (locs : List Loc) (hW : WdM D dA h A s σ H locs) (ls : Array Slot) (hl : lv_has ls 2 [(0, .ref (h 0))]) : W p l e rm_character s m args below meth c H locs 0 0 (MQ below (QM D dA h A σ' none) args s 0 0 A) (F0 m 46 ls [.int t0]) := by
  have hx := C.1.1
  have hb := C.1.2.1
  have hown := C.1.2.2.2.2.1
  have hT := C.1.2.2.2.2.2.1
  unfold M_character_46 at hM
  refine lv_istore_n (pc := 46) (lv' := [(1, .int t0), (0, .ref (h 0))]) hx hb dM_character_46 rfl hl (by decide) rfl (fun ls hl => ?_)
  refine lv_aload_n (pc := 47) hx hb dM_character_47 rfl (lv_at hl 1 rfl) ?_
  refine lv_dup (pc := 48) hx hb dM_character_48 rfl ?_
  refine gM (pc := 49) C hW 22 (by decide) q_1679 rfl rfl dM_character_49 ?_
  refine lv_iconst (pc := 52) (v := 1) hx hb dM_character_52 (by decide) ?_
  refine lv_iadd (pc := 53) hx hb dM_character_53 ?_
  refine pM (pc := 54) (ty := .int) C hW 22 12 (by decide) q_1679 rfl rfl (by decide +kernel) rfl rfl (st_to dA h _ _) dM_character_54 (fun H locs hW => ?_)
  obtain ⟨σ1, eσ1, hM⟩ := bnd_some hM
  rw [← eσ1] at hW
  refine lv_iload_n (pc := 57) hx hb dM_character_57 rfl (lv_at hl 0 rfl) ?_
  refine lv_if_eq (pc := 58) (tgt := 75) hx hb dM_character_58 (by decide) (fun hc => ?_) (fun hc => ?_)
  · replace hM := it_t hc hM
    exact bM_character_75  C   _ hM _ _ hW _ (lv_sub hl [1] rfl)
  · replace hM := it_f hc hM
    refine lv_aload_n (pc := 61) hx hb dM_character_61 rfl (lv_at hl 1 rfl) ?_
    refine lv_aload_n (pc := 62) hx hb dM_character_62 rfl (lv_at hl 1 rfl) ?_
    refine gM (pc := 63) C hW 22 (by decide) q_1679 rfl rfl dM_character_63 ?_
    obtain ⟨r2, hr2, hM⟩ := cr_some hM
    refine x_callRi (pc := 66) C hW (kM_charAt l D dA h  (σ1.1 12) _ hr2) gM_charAt_368 ⟨rfl, by decide, by decide, by decide +kernel⟩ ⟨rfl, rfl⟩ ⟨by decide, by decide⟩ ⟨by decide, by decide⟩ (As := [.int (σ1.1 12)]) (n := 1) rfl hl.1 rfl (Nat.le_of_ble_eq_true rfl) dM_character_66 ?_
    obtain ⟨r3, hr3, hM⟩ := cr_some hM
    refine x_callSi (pc := 69) C.1 (kM_isPlain l  r2 hr3) gM_isPlain_372 ⟨rfl, by decide, by decide, by decide +kernel⟩ ⟨rfl, rfl⟩ ⟨by decide, by decide⟩ ⟨by decide, by decide⟩ (As := [.int r2]) (n := 1) rfl hl.1 rfl (Nat.le_of_ble_eq_true rfl) dM_character_69 ?_
    refine lv_if_eq (pc := 72) (tgt := 79) hx hb dM_character_72 (by decide) (fun hc => ?_) (fun hc => ?_)
    · replace hM := it_t hc hM
      exact bM_character_79  C   _ hM _ _ hW _ (lv_sub hl [] rfl)
    · replace hM := it_f hc hM
      exact bM_character_75  C   _ hM _ _ hW _ (lv_sub hl [1] rfl)
def M_character_45  (σ : MS) : Option (Int32 × MS) :=
  M_character_46  (0 : Int32) σ
set_option maxHeartbeats 4000000 in
set_option maxRecDepth 100000 in
theorem bM_character_45  {r : Int32} {σ' : MS} (C : CxM p s m args meth c cM_character 2 none D dA A)  (σ : MS) (hM : M_character_45   σ = some (r, σ')) (H : Heap) (locs : List Loc) (hW : WdM D dA h A s σ H locs) (ls : Array Slot) (hl : lv_has ls 2 [(0, .ref (h 0))]) : W p l e rm_character s m args below meth c H locs 0 0 (MQ below (QM D dA h A σ' none) args s 0 0 A) (F0 m 45 ls []) := by
  have hx := C.1.1
  have hb := C.1.2.1
  have hown := C.1.2.2.2.2.1
  have hT := C.1.2.2.2.2.2.1
  unfold M_character_45 at hM
  refine lv_iconst (pc := 45) (v := 0) hx hb dM_character_45 (by decide) ?_
  exact bM_character_46  C  _ _ hM _ _ hW _ (lv_sub hl [0] rfl)
def M_character  (σ : MS) : Option (Int32 × MS) :=
  cl (M_shown  ((σ.1 9) + (1 : Int32)) (39 : Int32) σ) (fun r1 σ2 => bnd (sF σ2 13 r1) (fun σ3 => bnd (sF σ3 10 (2 : Int32)) (fun σ4 => (if (σ4.1 13) < 0 then M_character_45  σ4 else cr (M_charAt  (σ4.1 12) σ4) (fun r5 => (if r5 = (39 : Int32) then M_character_46  (1 : Int32) σ4 else M_character_45  σ4))))))
set_option maxHeartbeats 4000000 in
set_option maxRecDepth 100000 in
theorem bM_character_0  {r : Int32} {σ' : MS} (C : CxM p s m args meth c cM_character 2 none D dA A)  (σ : MS) (hM : M_character   σ = some (r, σ')) (H : Heap) (locs : List Loc) (hW : WdM D dA h A s σ H locs) (ls : Array Slot) (hl : lv_has ls 2 [(0, .ref (h 0))]) : W p l e rm_character s m args below meth c H locs 0 0 (MQ below (QM D dA h A σ' none) args s 0 0 A) (F0 m 0 ls []) := by
  have hx := C.1.1
  have hb := C.1.2.1
  have hown := C.1.2.2.2.2.1
  have hT := C.1.2.2.2.2.2.1
  unfold M_character at hM
  refine lv_aload_n (pc := 0) hx hb dM_character_0 rfl (lv_at hl 0 rfl) ?_
  refine lv_aload_n (pc := 1) hx hb dM_character_1 rfl (lv_at hl 0 rfl) ?_
  refine lv_aload_n (pc := 2) hx hb dM_character_2 rfl (lv_at hl 0 rfl) ?_
  refine gM (pc := 3) C hW 19 (by decide) q_1676 rfl rfl dM_character_3 ?_
  refine lv_iconst (pc := 6) (v := 1) hx hb dM_character_6 (by decide) ?_
  refine lv_iadd (pc := 7) hx hb dM_character_7 ?_
  refine lv_bipush (pc := 8) (v := 39) hx hb dM_character_8 (by decide) ?_
  obtain ⟨r1, σ2, hr1, hM⟩ := cl_some hM
  refine x_callMi (pc := 10) C hW (kM_shown l D dA h  ((σ.1 9) + (1 : Int32)) (39 : Int32) _ hr1) gM_shown_416 ⟨rfl, by decide, by decide, by decide +kernel⟩ ⟨rfl, rfl⟩ ⟨by decide, by decide⟩ ⟨by decide, by decide⟩ (As := [.int ((σ.1 9) + (1 : Int32)), .int (39 : Int32)]) (n := 2) rfl hl.1 rfl (Nat.le_of_ble_eq_true rfl) dM_character_10 (fun H locs hW => ?_)
  refine pM (pc := 13) (ty := .int) C hW 23 13 (by decide) q_1680 rfl rfl (by decide +kernel) rfl rfl (st_number dA h _ _) dM_character_13 (fun H locs hW => ?_)
  obtain ⟨σ3, eσ3, hM⟩ := bnd_some hM
  rw [← eσ3] at hW
  refine lv_aload_n (pc := 16) hx hb dM_character_16 rfl (lv_at hl 0 rfl) ?_
  refine lv_iconst (pc := 17) (v := 2) hx hb dM_character_17 (by decide) ?_
  refine pM (pc := 18) (ty := .int) C hW 20 10 (by decide) q_1677 rfl rfl (by decide +kernel) rfl rfl (st_token dA h _ _) dM_character_18 (fun H locs hW => ?_)
  obtain ⟨σ4, eσ4, hM⟩ := bnd_some hM
  rw [← eσ4] at hW
  refine lv_aload_n (pc := 21) hx hb dM_character_21 rfl (lv_at hl 0 rfl) ?_
  refine gM (pc := 22) C hW 23 (by decide) q_1680 rfl rfl dM_character_22 ?_
  refine lv_if_lt (pc := 25) (tgt := 45) hx hb dM_character_25 (by decide) (fun hc => ?_) (fun hc => ?_)
  · replace hM := it_t hc hM
    exact bM_character_45  C   _ hM _ _ hW _ (lv_sub hl [0] rfl)
  · replace hM := it_f hc hM
    refine lv_aload_n (pc := 28) hx hb dM_character_28 rfl (lv_at hl 0 rfl) ?_
    refine lv_aload_n (pc := 29) hx hb dM_character_29 rfl (lv_at hl 0 rfl) ?_
    refine gM (pc := 30) C hW 22 (by decide) q_1679 rfl rfl dM_character_30 ?_
    obtain ⟨r5, hr5, hM⟩ := cr_some hM
    refine x_callRi (pc := 33) C hW (kM_charAt l D dA h  (σ4.1 12) _ hr5) gM_charAt_368 ⟨rfl, by decide, by decide, by decide +kernel⟩ ⟨rfl, rfl⟩ ⟨by decide, by decide⟩ ⟨by decide, by decide⟩ (As := [.int (σ4.1 12)]) (n := 1) rfl hl.1 rfl (Nat.le_of_ble_eq_true rfl) dM_character_33 ?_
    refine lv_bipush (pc := 36) (v := 39) hx hb dM_character_36 (by decide) ?_
    refine lv_icmp_ne (pc := 38) (tgt := 45) hx hb dM_character_38 (by decide) (fun hc => ?_) (fun hc => ?_)
    · replace hM := it_f hc hM
      exact bM_character_45  C   _ hM _ _ hW _ (lv_sub hl [0] rfl)
    · replace hM := it_t hc hM
      refine lv_iconst (pc := 41) (v := 1) hx hb dM_character_41 (by decide) ?_
      refine lv_goto (pc := 42) (tgt := 46) hx hb dM_character_42 (by decide) ?_
      exact bM_character_46  C  _ _ hM _ _ hW _ (lv_sub hl [0] rfl)
theorem kM_character (l : Launch) (D : va_G) (dA : Nat → ClassId) (h : Nat → Nat)  (σ : MS) {r : Int32} {σ' : MS} (hM : M_character  σ = some (r, σ')) : KM l D dA yM_character cM_character 2 none rm_character h σ [] none σ' := x_enterM rfl (Nat.le_of_ble_eq_true rfl) (fun p e s m args below meth c A C hW ls hl => bM_character_0 C  σ hM s.heap [] hW ls hl)
def M_worth_60 (t0 : Int32) : Option Int32 :=
  some t0
set_option maxHeartbeats 4000000 in
set_option maxRecDepth 100000 in
theorem bM_worth_60  {r : Int32} (C : CxS RM p s m args meth c cM_worth 1 (some .int)) (t0 : Int32) (hM : M_worth_60  t0 = some r) (ls : Array Slot) (hl : lv_has ls 1 []) : W p l e rm_worth s m args below meth c s.heap [] 0 0 (MQ below (QS (some (.int r))) args s 0 0 (fun _ => False)) (F0 m 60 ls [.int t0]) := by
  have hx := C.1
  have hb := C.2.1
  have hown := C.2.2.2.2.1
  have hT := C.2.2.2.2.2.1
  unfold M_worth_60 at hM
  obtain rfl := sm_i hM
  exact x_retS (pc := 60) C rfl dM_worth_60
def M_worth_58  : Option Int32 :=
  M_worth_60  (99 : Int32)
set_option maxHeartbeats 4000000 in
set_option maxRecDepth 100000 in
theorem bM_worth_58  {r : Int32} (C : CxS RM p s m args meth c cM_worth 1 (some .int))  (hM : M_worth_58   = some r) (ls : Array Slot) (hl : lv_has ls 1 []) : W p l e rm_worth s m args below meth c s.heap [] 0 0 (MQ below (QS (some (.int r))) args s 0 0 (fun _ => False)) (F0 m 58 ls []) := by
  have hx := C.1
  have hb := C.2.1
  have hown := C.2.2.2.2.1
  have hT := C.2.2.2.2.2.1
  unfold M_worth_58 at hM
  refine lv_bipush (pc := 58) (v := 99) hx hb dM_worth_58 (by decide) ?_
  exact bM_worth_60  C  _ hM _ (lv_sub hl [] rfl)
def M_worth_36 (x0 : Int32) : Option Int32 :=
  (if x0 < (65 : Int32) then M_worth_58   else (if (70 : Int32) < x0 then M_worth_58   else M_worth_60  ((x0 - (65 : Int32)) + (10 : Int32))))
set_option maxHeartbeats 4000000 in
set_option maxRecDepth 100000 in
theorem bM_worth_36  {r : Int32} (C : CxS RM p s m args meth c cM_worth 1 (some .int)) (x0 : Int32) (hM : M_worth_36  x0 = some r) (ls : Array Slot) (hl : lv_has ls 1 [(0, .int x0)]) : W p l e rm_worth s m args below meth c s.heap [] 0 0 (MQ below (QS (some (.int r))) args s 0 0 (fun _ => False)) (F0 m 36 ls []) := by
  have hx := C.1
  have hb := C.2.1
  have hown := C.2.2.2.2.1
  have hT := C.2.2.2.2.2.1
  unfold M_worth_36 at hM
  refine lv_iload_n (pc := 36) hx hb dM_worth_36 rfl (lv_at hl 0 rfl) ?_
  refine lv_bipush (pc := 37) (v := 65) hx hb dM_worth_37 (by decide) ?_
  refine lv_icmp_lt (pc := 39) (tgt := 58) hx hb dM_worth_39 (by decide) (fun hc => ?_) (fun hc => ?_)
  · replace hM := it_t hc hM
    exact bM_worth_58  C   hM _ (lv_sub hl [] rfl)
  · replace hM := it_f hc hM
    refine lv_iload_n (pc := 42) hx hb dM_worth_42 rfl (lv_at hl 0 rfl) ?_
    refine lv_bipush (pc := 43) (v := 70) hx hb dM_worth_43 (by decide) ?_
    refine lv_icmp_gt (pc := 45) (tgt := 58) hx hb dM_worth_45 (by decide) (fun hc => ?_) (fun hc => ?_)
    · replace hM := it_t hc hM
      exact bM_worth_58  C   hM _ (lv_sub hl [] rfl)
    · replace hM := it_f hc hM
      refine lv_iload_n (pc := 48) hx hb dM_worth_48 rfl (lv_at hl 0 rfl) ?_
      refine lv_bipush (pc := 49) (v := 65) hx hb dM_worth_49 (by decide) ?_
      refine lv_isub (pc := 51) hx hb dM_worth_51 ?_
      refine lv_bipush (pc := 52) (v := 10) hx hb dM_worth_52 (by decide) ?_
      refine lv_iadd (pc := 54) hx hb dM_worth_54 ?_
      refine lv_goto (pc := 55) (tgt := 60) hx hb dM_worth_55 (by decide) ?_
      exact bM_worth_60  C  _ hM _ (lv_sub hl [] rfl)
def M_worth (x0 : Int32) : Option Int32 :=
  cr (M_isDigit  x0) (fun r1 => (if r1 = 0 then (if x0 < (97 : Int32) then M_worth_36  x0 else (if (102 : Int32) < x0 then M_worth_36  x0 else M_worth_60  ((x0 - (97 : Int32)) + (10 : Int32)))) else M_worth_60  (x0 - (48 : Int32))))
set_option maxHeartbeats 4000000 in
set_option maxRecDepth 100000 in
theorem bM_worth_0  {r : Int32} (C : CxS RM p s m args meth c cM_worth 1 (some .int)) (x0 : Int32) (hM : M_worth  x0 = some r) (ls : Array Slot) (hl : lv_has ls 1 [(0, .int x0)]) : W p l e rm_worth s m args below meth c s.heap [] 0 0 (MQ below (QS (some (.int r))) args s 0 0 (fun _ => False)) (F0 m 0 ls []) := by
  have hx := C.1
  have hb := C.2.1
  have hown := C.2.2.2.2.1
  have hT := C.2.2.2.2.2.1
  unfold M_worth at hM
  refine lv_iload_n (pc := 0) hx hb dM_worth_0 rfl (lv_at hl 0 rfl) ?_
  obtain ⟨r1, hr1, hM⟩ := cr_some hM
  refine x_callSi (pc := 1) C (kM_isDigit l  x0 hr1) gM_isDigit_361 ⟨rfl, by decide, by decide, by decide +kernel⟩ ⟨rfl, rfl⟩ ⟨by decide, by decide⟩ ⟨by decide, by decide⟩ (As := [.int x0]) (n := 1) rfl hl.1 rfl (Nat.le_of_ble_eq_true rfl) dM_worth_1 ?_
  refine lv_if_eq (pc := 4) (tgt := 14) hx hb dM_worth_4 (by decide) (fun hc => ?_) (fun hc => ?_)
  · replace hM := it_t hc hM
    refine lv_iload_n (pc := 14) hx hb dM_worth_14 rfl (lv_at hl 0 rfl) ?_
    refine lv_bipush (pc := 15) (v := 97) hx hb dM_worth_15 (by decide) ?_
    refine lv_icmp_lt (pc := 17) (tgt := 36) hx hb dM_worth_17 (by decide) (fun hc => ?_) (fun hc => ?_)
    · replace hM := it_t hc hM
      exact bM_worth_36  C  _ hM _ (lv_sub hl [0] rfl)
    · replace hM := it_f hc hM
      refine lv_iload_n (pc := 20) hx hb dM_worth_20 rfl (lv_at hl 0 rfl) ?_
      refine lv_bipush (pc := 21) (v := 102) hx hb dM_worth_21 (by decide) ?_
      refine lv_icmp_gt (pc := 23) (tgt := 36) hx hb dM_worth_23 (by decide) (fun hc => ?_) (fun hc => ?_)
      · replace hM := it_t hc hM
        exact bM_worth_36  C  _ hM _ (lv_sub hl [0] rfl)
      · replace hM := it_f hc hM
        refine lv_iload_n (pc := 26) hx hb dM_worth_26 rfl (lv_at hl 0 rfl) ?_
        refine lv_bipush (pc := 27) (v := 97) hx hb dM_worth_27 (by decide) ?_
        refine lv_isub (pc := 29) hx hb dM_worth_29 ?_
        refine lv_bipush (pc := 30) (v := 10) hx hb dM_worth_30 (by decide) ?_
        refine lv_iadd (pc := 32) hx hb dM_worth_32 ?_
        refine lv_goto (pc := 33) (tgt := 60) hx hb dM_worth_33 (by decide) ?_
        exact bM_worth_60  C  _ hM _ (lv_sub hl [] rfl)
  · replace hM := it_f hc hM
    refine lv_iload_n (pc := 7) hx hb dM_worth_7 rfl (lv_at hl 0 rfl) ?_
    refine lv_bipush (pc := 8) (v := 48) hx hb dM_worth_8 (by decide) ?_
    refine lv_isub (pc := 10) hx hb dM_worth_10 ?_
    refine lv_goto (pc := 11) (tgt := 60) hx hb dM_worth_11 (by decide) ?_
    exact bM_worth_60  C  _ hM _ (lv_sub hl [] rfl)
theorem kM_worth (l : Launch) (x0 : Int32) {r : Int32} (hM : M_worth x0 = some r) : KS l yM_worth cM_worth 1 (some .int) rm_worth [.int x0] (some (.int r)) := x_enterS (by decide +kernel) (Nat.le_of_ble_eq_true rfl) (fun p e s m args below meth c C ls hl => bM_worth_0 C x0 hM ls hl)
def M_numeral_90 (N : Nat) (z4 : Int64) (σ : MS) : Option Int64 :=
  some z4
set_option maxHeartbeats 4000000 in
set_option maxRecDepth 100000 in
theorem bM_numeral_90 (N : Nat)  {r : Int64} (C : CxM p s m args meth c cM_numeral 8 (some .long) D dA A) (z4 : Int64) (σ : MS) (hM : M_numeral_90 N  z4 σ = some r) (hW : WdM D dA h A s σ s.heap []) (ls : Array Slot) (hl : lv_has ls 8 [(4, .long z4)]) : W p l e rm_numeral s m args below meth c s.heap [] 0 0 (MQ below (QS (some (.long r))) args s 0 0 (fun _ => False)) (F0 m 90 ls []) := by
  have hx := C.1.1
  have hb := C.1.2.1
  have hown := C.1.2.2.2.2.1
  have hT := C.1.2.2.2.2.2.1
  unfold M_numeral_90 at hM
  refine lv_lload (pc := 90) hx hb dM_numeral_90 (lv_at hl 0 rfl) ?_
  obtain rfl := sm_i hM
  exact x_retRl (pc := 92) C.1 rfl dM_numeral_92
def M_numeral_82 (N : Nat) (rec17 : Int32 → Int32 → Int64 → Int32 → MS → Option Int64) (x2 : Int32) (x3 : Int32) (x6 : Int32) (t0 : Int64) (σ : MS) : Option Int64 :=
  rec17 x2 x3 t0 (x6 + (1 : Int32)) σ
set_option maxHeartbeats 4000000 in
set_option maxRecDepth 100000 in
theorem bM_numeral_82 (N : Nat) (rec17 : Int32 → Int32 → Int64 → Int32 → MS → Option Int64) {r : Int64} (C : CxM p s m args meth c cM_numeral 8 (some .long) D dA A) (hrec17 : ∀ (x2 : Int32) (x3 : Int32) (z4 : Int64) (x6 : Int32) (σ : MS), rec17 x2 x3 z4 x6 σ = some r → WdM D dA h A s σ s.heap [] → ∀ (ls : Array Slot), lv_has ls 8 [(0, .ref (h 0)), (2, .int x2), (3, .int x3), (4, .long z4), (6, .int x6)] → W p l e rm_numeral s m args below meth c s.heap [] 0 0 (MQ below (QS (some (.long r))) args s 0 0 (fun _ => False)) (F0 m 17 ls [])) (x2 : Int32) (x3 : Int32) (x6 : Int32) (t0 : Int64) (σ : MS) (hM : M_numeral_82 N rec17 x2 x3 x6 t0 σ = some r) (hW : WdM D dA h A s σ s.heap []) (ls : Array Slot) (hl : lv_has ls 8 [(0, .ref (h 0)), (2, .int x2), (3, .int x3), (6, .int x6)]) : W p l e rm_numeral s m args below meth c s.heap [] 0 0 (MQ below (QS (some (.long r))) args s 0 0 (fun _ => False)) (F0 m 82 ls [.long t0]) := by
  have hx := C.1.1
  have hb := C.1.2.1
  have hown := C.1.2.2.2.2.1
  have hT := C.1.2.2.2.2.2.1
  unfold M_numeral_82 at hM
  refine lv_lstore (pc := 82) (lv' := [(4, .long t0), (0, .ref (h 0)), (2, .int x2), (3, .int x3), (6, .int x6)]) hx hb dM_numeral_82 hl (by decide) rfl (fun ls hl => ?_)
  refine lv_iinc (pc := 84) (v := x6 + (1 : Int32)) (lv' := [(6, .int (x6 + (1 : Int32))), (4, .long t0), (0, .ref (h 0)), (2, .int x2), (3, .int x3)]) hx hb dM_numeral_84 hl (k := 4) rfl rfl (by decide) rfl (fun ls hl => ?_)
  refine lv_goto (pc := 87) (tgt := 17) hx hb dM_numeral_87 (by decide) ?_
  exact hrec17 _ _ _ _ _ hM hW _ (lv_sub hl [2, 3, 4, 1, 0] rfl)
def M_numeral_63 (N : Nat) (rec17 : Int32 → Int32 → Int64 → Int32 → MS → Option Int64) (x2 : Int32) (x3 : Int32) (x6 : Int32) (t0 : Int64) (σ : MS) : Option Int64 :=
  (if (lg_cmp t0 (4294967295 : Int64)) ≤ 0 then M_numeral_82 N rec17 x2 x3 x6 t0 σ else M_numeral_82 N rec17 x2 x3 x6 (-1 : Int64) σ)
set_option maxHeartbeats 4000000 in
set_option maxRecDepth 100000 in
theorem bM_numeral_63 (N : Nat) (rec17 : Int32 → Int32 → Int64 → Int32 → MS → Option Int64) {r : Int64} (C : CxM p s m args meth c cM_numeral 8 (some .long) D dA A) (hrec17 : ∀ (x2 : Int32) (x3 : Int32) (z4 : Int64) (x6 : Int32) (σ : MS), rec17 x2 x3 z4 x6 σ = some r → WdM D dA h A s σ s.heap [] → ∀ (ls : Array Slot), lv_has ls 8 [(0, .ref (h 0)), (2, .int x2), (3, .int x3), (4, .long z4), (6, .int x6)] → W p l e rm_numeral s m args below meth c s.heap [] 0 0 (MQ below (QS (some (.long r))) args s 0 0 (fun _ => False)) (F0 m 17 ls [])) (x2 : Int32) (x3 : Int32) (x6 : Int32) (t0 : Int64) (σ : MS) (hM : M_numeral_63 N rec17 x2 x3 x6 t0 σ = some r) (hW : WdM D dA h A s σ s.heap []) (ls : Array Slot) (hl : lv_has ls 8 [(0, .ref (h 0)), (2, .int x2), (3, .int x3), (6, .int x6)]) : W p l e rm_numeral s m args below meth c s.heap [] 0 0 (MQ below (QS (some (.long r))) args s 0 0 (fun _ => False)) (F0 m 63 ls [.long t0]) := by
  have hx := C.1.1
  have hb := C.1.2.1
  have hown := C.1.2.2.2.2.1
  have hT := C.1.2.2.2.2.2.1
  unfold M_numeral_63 at hM
  refine lv_lstore (pc := 63) (lv' := [(4, .long t0), (0, .ref (h 0)), (2, .int x2), (3, .int x3), (6, .int x6)]) hx hb dM_numeral_63 hl (by decide) rfl (fun ls hl => ?_)
  refine lv_lload (pc := 65) hx hb dM_numeral_65 (lv_at hl 0 rfl) ?_
  refine lv_ldc2 (pc := 67) (v := 4294967295) hx hb hown (hT _ q_1839) dM_numeral_67 ?_
  refine W.lcmp (pc := 70) hx hb dM_numeral_70 ?_
  refine lv_if_le (pc := 71) (tgt := 80) hx hb dM_numeral_71 (by decide) (fun hc => ?_) (fun hc => ?_)
  · replace hM := it_t hc hM
    refine lv_lload (pc := 80) hx hb dM_numeral_80 (lv_at hl 0 rfl) ?_
    exact bM_numeral_82 N rec17 C hrec17 _ _ _ _ _ hM hW _ (lv_sub hl [1, 2, 3, 4] rfl)
  · replace hM := it_f hc hM
    refine lv_ldc2 (pc := 74) (v := -1) hx hb hown (hT _ q_1835) dM_numeral_74 ?_
    refine lv_goto (pc := 77) (tgt := 82) hx hb dM_numeral_77 (by decide) ?_
    exact bM_numeral_82 N rec17 C hrec17 _ _ _ _ _ hM hW _ (lv_sub hl [1, 2, 3, 4] rfl)
def M_numeral_17 (N : Nat)  : Nat → Int32 → Int32 → Int64 → Int32 → MS → Option Int64
  | 0 => fun _ _ _ _ _ => none
  | n + 1 => fun x2 x3 z4 x6 σ => (if x2 ≤ x6 then M_numeral_90 N  z4 σ else (if (lg_cmp z4 (0 : Int64)) < 0 then M_numeral_90 N  z4 σ else gd (inB x6 4100) (cr (M_worth  (σ.2 1 x6.toNatClampNeg)) (fun r2 => (if x3 ≤ r2 then M_numeral_63 N (M_numeral_17 N  n) x2 x3 x6 (-1 : Int64) σ else M_numeral_63 N (M_numeral_17 N  n) x2 x3 x6 ((z4 * x3.toInt64) + r2.toInt64) σ)))))
set_option maxHeartbeats 4000000 in
set_option maxRecDepth 100000 in
theorem bM_numeral_17 (N : Nat)  {r : Int64} (C : CxM p s m args meth c cM_numeral 8 (some .long) D dA A) : ∀ (n : Nat) (x2 : Int32) (x3 : Int32) (z4 : Int64) (x6 : Int32) (σ : MS), M_numeral_17 N  n x2 x3 z4 x6 σ = some r → WdM D dA h A s σ s.heap [] → ∀ (ls : Array Slot), lv_has ls 8 [(0, .ref (h 0)), (2, .int x2), (3, .int x3), (4, .long z4), (6, .int x6)] → W p l e rm_numeral s m args below meth c s.heap [] 0 0 (MQ below (QS (some (.long r))) args s 0 0 (fun _ => False)) (F0 m 17 ls []) := by
  have hx := C.1.1
  have hb := C.1.2.1
  have hown := C.1.2.2.2.2.1
  have hT := C.1.2.2.2.2.2.1
  intro n
  induction n with
  | zero => intro x2 x3 z4 x6 σ hM; cases hM
  | succ n hrec17 =>
    intro x2 x3 z4 x6 σ hM hW ls hl
    rw [M_numeral_17] at hM
    refine lv_iload (pc := 17) hx hb dM_numeral_17 (lv_at hl 4 rfl) ?_
    refine lv_iload_n (pc := 19) hx hb dM_numeral_19 rfl (lv_at hl 1 rfl) ?_
    refine lv_icmp_ge (pc := 20) (tgt := 90) hx hb dM_numeral_20 (by decide) (fun hc => ?_) (fun hc => ?_)
    · replace hM := it_t hc hM
      exact bM_numeral_90 N  C  _ _ hM hW _ (lv_sub hl [3] rfl)
    · replace hM := it_f hc hM
      refine lv_lload (pc := 23) hx hb dM_numeral_23 (lv_at hl 3 rfl) ?_
      refine lv_lconst (pc := 25) (v := 0) hx hb dM_numeral_25 (by decide) ?_
      refine W.lcmp (pc := 26) hx hb dM_numeral_26 ?_
      refine lv_if_lt (pc := 27) (tgt := 90) hx hb dM_numeral_27 (by decide) (fun hc => ?_) (fun hc => ?_)
      · replace hM := it_t hc hM
        exact bM_numeral_90 N  C  _ _ hM hW _ (lv_sub hl [3] rfl)
      · replace hM := it_f hc hM
        refine lv_aload_n (pc := 30) hx hb dM_numeral_30 rfl (lv_at hl 0 rfl) ?_
        refine gM (pc := 31) C hW 6 (by decide) q_1663 rfl rfl dM_numeral_31 ?_
        refine lv_iload (pc := 34) hx hb dM_numeral_34 (lv_at hl 4 rfl) ?_
        obtain ⟨hg1, hM⟩ := gd_some hM
        refine x_ldC (pc := 36) C hW 5 rfl hg1 dM_numeral_36 ?_
        obtain ⟨r2, hr2, hM⟩ := cr_some hM
        refine x_callSi (pc := 37) C.1 (kM_worth l  (σ.2 1 x6.toNatClampNeg) hr2) gM_worth_404 ⟨rfl, by decide, by decide, by decide +kernel⟩ ⟨rfl, rfl⟩ ⟨by decide, by decide⟩ ⟨by decide, by decide⟩ (As := [.int (σ.2 1 x6.toNatClampNeg)]) (n := 1) rfl hl.1 rfl (Nat.le_of_ble_eq_true rfl) dM_numeral_37 ?_
        refine lv_istore (pc := 40) (lv' := [(7, .int r2), (0, .ref (h 0)), (2, .int x2), (3, .int x3), (4, .long z4), (6, .int x6)]) hx hb dM_numeral_40 hl (by decide) rfl (fun ls hl => ?_)
        refine lv_iload (pc := 42) hx hb dM_numeral_42 (lv_at hl 0 rfl) ?_
        refine lv_iload_n (pc := 44) hx hb dM_numeral_44 rfl (lv_at hl 3 rfl) ?_
        refine lv_icmp_ge (pc := 45) (tgt := 60) hx hb dM_numeral_45 (by decide) (fun hc => ?_) (fun hc => ?_)
        · replace hM := it_t hc hM
          refine lv_ldc2 (pc := 60) (v := -1) hx hb hown (hT _ q_1835) dM_numeral_60 ?_
          exact bM_numeral_63 N _ C hrec17 _ _ _ _ _ hM hW _ (lv_sub hl [1, 2, 3, 5] rfl)
        · replace hM := it_f hc hM
          refine lv_lload (pc := 48) hx hb dM_numeral_48 (lv_at hl 4 rfl) ?_
          refine lv_iload_n (pc := 50) hx hb dM_numeral_50 rfl (lv_at hl 3 rfl) ?_
          refine lv_i2l (pc := 51) (v := x3.toInt64) hx hb dM_numeral_51 rfl ?_
          refine lv_lmul (pc := 52) hx hb dM_numeral_52 ?_
          refine lv_iload (pc := 53) hx hb dM_numeral_53 (lv_at hl 0 rfl) ?_
          refine lv_i2l (pc := 55) (v := r2.toInt64) hx hb dM_numeral_55 rfl ?_
          refine lv_ladd (pc := 56) hx hb dM_numeral_56 ?_
          refine lv_goto (pc := 57) (tgt := 63) hx hb dM_numeral_57 (by decide) ?_
          exact bM_numeral_63 N _ C hrec17 _ _ _ _ _ hM hW _ (lv_sub hl [1, 2, 3, 5] rfl)
def M_numeral_12 (N : Nat) (x1 : Int32) (x2 : Int32) (x3 : Int32) (t0 : Int64) (σ : MS) : Option Int64 :=
  M_numeral_17 N  N x2 x3 t0 x1 σ
set_option maxHeartbeats 4000000 in
set_option maxRecDepth 100000 in
theorem bM_numeral_12 (N : Nat)  {r : Int64} (C : CxM p s m args meth c cM_numeral 8 (some .long) D dA A) (x1 : Int32) (x2 : Int32) (x3 : Int32) (t0 : Int64) (σ : MS) (hM : M_numeral_12 N  x1 x2 x3 t0 σ = some r) (hW : WdM D dA h A s σ s.heap []) (ls : Array Slot) (hl : lv_has ls 8 [(0, .ref (h 0)), (1, .int x1), (2, .int x2), (3, .int x3)]) : W p l e rm_numeral s m args below meth c s.heap [] 0 0 (MQ below (QS (some (.long r))) args s 0 0 (fun _ => False)) (F0 m 12 ls [.long t0]) := by
  have hx := C.1.1
  have hb := C.1.2.1
  have hown := C.1.2.2.2.2.1
  have hT := C.1.2.2.2.2.2.1
  unfold M_numeral_12 at hM
  refine lv_lstore (pc := 12) (lv' := [(4, .long t0), (0, .ref (h 0)), (1, .int x1), (2, .int x2), (3, .int x3)]) hx hb dM_numeral_12 hl (by decide) rfl (fun ls hl => ?_)
  refine lv_iload_n (pc := 14) hx hb dM_numeral_14 rfl (lv_at hl 2 rfl) ?_
  refine lv_istore (pc := 15) (lv' := [(6, .int x1), (4, .long t0), (0, .ref (h 0)), (1, .int x1), (2, .int x2), (3, .int x3)]) hx hb dM_numeral_15 hl (by decide) rfl (fun ls hl => ?_)
  exact bM_numeral_17 N  C  N _ _ _ _ _ hM hW _ (lv_sub hl [2, 4, 5, 1, 0] rfl)
def M_numeral (N : Nat) (x1 : Int32) (x2 : Int32) (x3 : Int32) (σ : MS) : Option Int64 :=
  (if x2 ≤ x1 then M_numeral_12 N  x1 x2 x3 (-1 : Int64) σ else M_numeral_12 N  x1 x2 x3 (0 : Int64) σ)
set_option maxHeartbeats 4000000 in
set_option maxRecDepth 100000 in
theorem bM_numeral_0 (N : Nat)  {r : Int64} (C : CxM p s m args meth c cM_numeral 8 (some .long) D dA A) (x1 : Int32) (x2 : Int32) (x3 : Int32) (σ : MS) (hM : M_numeral N  x1 x2 x3 σ = some r) (hW : WdM D dA h A s σ s.heap []) (ls : Array Slot) (hl : lv_has ls 8 [(0, .ref (h 0)), (1, .int x1), (2, .int x2), (3, .int x3)]) : W p l e rm_numeral s m args below meth c s.heap [] 0 0 (MQ below (QS (some (.long r))) args s 0 0 (fun _ => False)) (F0 m 0 ls []) := by
  have hx := C.1.1
  have hb := C.1.2.1
  have hown := C.1.2.2.2.2.1
  have hT := C.1.2.2.2.2.2.1
  unfold M_numeral at hM
  refine lv_iload_n (pc := 0) hx hb dM_numeral_0 rfl (lv_at hl 1 rfl) ?_
  refine lv_iload_n (pc := 1) hx hb dM_numeral_1 rfl (lv_at hl 2 rfl) ?_
  refine lv_icmp_ge (pc := 2) (tgt := 9) hx hb dM_numeral_2 (by decide) (fun hc => ?_) (fun hc => ?_)
  · replace hM := it_t hc hM
    refine lv_ldc2 (pc := 9) (v := -1) hx hb hown (hT _ q_1835) dM_numeral_9 ?_
    exact bM_numeral_12 N  C  _ _ _ _ _ hM hW _ (lv_sub hl [0, 1, 2, 3] rfl)
  · replace hM := it_f hc hM
    refine lv_lconst (pc := 5) (v := 0) hx hb dM_numeral_5 (by decide) ?_
    refine lv_goto (pc := 6) (tgt := 12) hx hb dM_numeral_6 (by decide) ?_
    exact bM_numeral_12 N  C  _ _ _ _ _ hM hW _ (lv_sub hl [0, 1, 2, 3] rfl)
theorem kM_numeral (l : Launch) (D : va_G) (dA : Nat → ClassId) (h : Nat → Nat) (N : Nat) (x1 : Int32) (x2 : Int32) (x3 : Int32) (σ : MS) {r : Int64} (hM : M_numeral N x1 x2 x3 σ = some r) : KR l D dA yM_numeral cM_numeral 8 (some .long) rm_numeral h σ [.int x1, .int x2, .int x3] (some (.long r)) := x_enterR rfl (Nat.le_of_ble_eq_true rfl) (fun p e s m args below meth c A C hW ls hl => bM_numeral_0 N C x1 x2 x3 σ hM hW ls hl)
def M_digits_202 (N : Nat)  (σ : MS) : Option (Int32 × MS) :=
  some ((0 : Int32), σ)
set_option maxHeartbeats 4000000 in
set_option maxRecDepth 100000 in
theorem bM_digits_202 (N : Nat)  {r : Int32} {σ' : MS} (C : CxM p s m args meth c cM_digits 6 none D dA A)  (σ : MS) (hM : M_digits_202 N   σ = some (r, σ')) (H : Heap) (locs : List Loc) (hW : WdM D dA h A s σ H locs) (ls : Array Slot) (hl : lv_has ls 6 []) : W p l e rm_digits s m args below meth c H locs 0 0 (MQ below (QM D dA h A σ' none) args s 0 0 A) (F0 m 202 ls []) := by
  have hx := C.1.1
  have hb := C.1.2.1
  have hown := C.1.2.2.2.2.1
  have hT := C.1.2.2.2.2.2.1
  unfold M_digits_202 at hM
  obtain ⟨rfl, rfl⟩ := sm_p hM
  exact x_retMv (pc := 202) C rfl hW dM_digits_202
def M_digits_177 (N : Nat) (t0 : Int64) (σ : MS) : Option (Int32 × MS) :=
  bnd (sF σ 10 (2 : Int32)) (fun σ1 => bnd (sF σ1 13 t0.toInt32) (fun σ2 => (if 0 ≤ (lg_cmp t0 (0 : Int64)) then M_digits_202 N  σ2 else cl (M_bad  σ2) (fun r3 σ4 => M_digits_202 N  σ4))))
set_option maxHeartbeats 4000000 in
set_option maxRecDepth 100000 in
theorem bM_digits_177 (N : Nat)  {r : Int32} {σ' : MS} (C : CxM p s m args meth c cM_digits 6 none D dA A) (t0 : Int64) (σ : MS) (hM : M_digits_177 N  t0 σ = some (r, σ')) (H : Heap) (locs : List Loc) (hW : WdM D dA h A s σ H locs) (ls : Array Slot) (hl : lv_has ls 6 [(0, .ref (h 0))]) : W p l e rm_digits s m args below meth c H locs 0 0 (MQ below (QM D dA h A σ' none) args s 0 0 A) (F0 m 177 ls [.long t0]) := by
  have hx := C.1.1
  have hb := C.1.2.1
  have hown := C.1.2.2.2.2.1
  have hT := C.1.2.2.2.2.2.1
  unfold M_digits_177 at hM
  refine lv_lstore (pc := 177) (lv' := [(4, .long t0), (0, .ref (h 0))]) hx hb dM_digits_177 hl (by decide) rfl (fun ls hl => ?_)
  refine lv_aload_n (pc := 179) hx hb dM_digits_179 rfl (lv_at hl 1 rfl) ?_
  refine lv_iconst (pc := 180) (v := 2) hx hb dM_digits_180 (by decide) ?_
  refine pM (pc := 181) (ty := .int) C hW 20 10 (by decide) q_1677 rfl rfl (by decide +kernel) rfl rfl (st_token dA h _ _) dM_digits_181 (fun H locs hW => ?_)
  obtain ⟨σ1, eσ1, hM⟩ := bnd_some hM
  rw [← eσ1] at hW
  refine lv_aload_n (pc := 184) hx hb dM_digits_184 rfl (lv_at hl 1 rfl) ?_
  refine lv_lload (pc := 185) hx hb dM_digits_185 (lv_at hl 0 rfl) ?_
  refine lv_l2i (pc := 187) (v := t0.toInt32) hx hb dM_digits_187 rfl ?_
  refine pM (pc := 188) (ty := .int) C hW 23 13 (by decide) q_1680 rfl rfl (by decide +kernel) rfl rfl (st_number dA h _ _) dM_digits_188 (fun H locs hW => ?_)
  obtain ⟨σ2, eσ2, hM⟩ := bnd_some hM
  rw [← eσ2] at hW
  refine lv_lload (pc := 191) hx hb dM_digits_191 (lv_at hl 0 rfl) ?_
  refine lv_lconst (pc := 193) (v := 0) hx hb dM_digits_193 (by decide) ?_
  refine W.lcmp (pc := 194) hx hb dM_digits_194 ?_
  refine lv_if_ge (pc := 195) (tgt := 202) hx hb dM_digits_195 (by decide) (fun hc => ?_) (fun hc => ?_)
  · replace hM := it_t hc hM
    exact bM_digits_202 N  C   _ hM _ _ hW _ (lv_sub hl [] rfl)
  · replace hM := it_f hc hM
    refine lv_aload_n (pc := 198) hx hb dM_digits_198 rfl (lv_at hl 1 rfl) ?_
    obtain ⟨r3, σ4, hr3, hM⟩ := cl_some hM
    refine x_callMv (pc := 199) C hW (kM_bad l D dA h  _ hr3) gM_bad_393 ⟨rfl, by decide, by decide, by decide +kernel⟩ ⟨rfl, rfl⟩ ⟨by decide, by decide⟩ ⟨by decide, by decide⟩ (As := []) (n := 0) rfl hl.1 rfl (Nat.le_of_ble_eq_true rfl) dM_digits_199 (fun H locs hW => ?_)
    exact bM_digits_202 N  C   _ hM _ _ hW _ (lv_sub hl [] rfl)
def M_digits_163 (N : Nat)  (σ : MS) : Option (Int32 × MS) :=
  cr (M_numeral N (σ.1 11) (σ.1 12) (10 : Int32) σ) (fun r1 => M_digits_177 N  r1 σ)
set_option maxHeartbeats 4000000 in
set_option maxRecDepth 100000 in
theorem bM_digits_163 (N : Nat)  {r : Int32} {σ' : MS} (C : CxM p s m args meth c cM_digits 6 none D dA A)  (σ : MS) (hM : M_digits_163 N   σ = some (r, σ')) (H : Heap) (locs : List Loc) (hW : WdM D dA h A s σ H locs) (ls : Array Slot) (hl : lv_has ls 6 [(0, .ref (h 0))]) : W p l e rm_digits s m args below meth c H locs 0 0 (MQ below (QM D dA h A σ' none) args s 0 0 A) (F0 m 163 ls []) := by
  have hx := C.1.1
  have hb := C.1.2.1
  have hown := C.1.2.2.2.2.1
  have hT := C.1.2.2.2.2.2.1
  unfold M_digits_163 at hM
  refine lv_aload_n (pc := 163) hx hb dM_digits_163 rfl (lv_at hl 0 rfl) ?_
  refine lv_aload_n (pc := 164) hx hb dM_digits_164 rfl (lv_at hl 0 rfl) ?_
  refine gM (pc := 165) C hW 21 (by decide) q_1678 rfl rfl dM_digits_165 ?_
  refine lv_aload_n (pc := 168) hx hb dM_digits_168 rfl (lv_at hl 0 rfl) ?_
  refine gM (pc := 169) C hW 22 (by decide) q_1679 rfl rfl dM_digits_169 ?_
  refine lv_bipush (pc := 172) (v := 10) hx hb dM_digits_172 (by decide) ?_
  obtain ⟨r1, hr1, hM⟩ := cr_some hM
  refine x_callRl (pc := 174) C hW (kM_numeral l D dA h N (σ.1 11) (σ.1 12) (10 : Int32) _ hr1) gM_numeral_412 ⟨rfl, by decide, by decide, by decide +kernel⟩ ⟨rfl, rfl⟩ ⟨by decide, by decide⟩ ⟨by decide, by decide⟩ (As := [.int (σ.1 11), .int (σ.1 12), .int (10 : Int32)]) (n := 3) rfl hl.1 rfl (Nat.le_of_ble_eq_true rfl) dM_digits_174 ?_
  exact bM_digits_177 N  C  _ _ hM _ _ hW _ (lv_sub hl [0] rfl)
def M_digits_135 (N : Nat) (x1 : Int32) (x3 : Int32) (σ : MS) : Option (Int32 × MS) :=
  (if x3 = 0 then M_digits_163 N  σ else (if x1 = (98 : Int32) then cr (M_numeral N ((σ.1 11) + (2 : Int32)) (σ.1 12) (2 : Int32) σ) (fun r1 => M_digits_177 N  r1 σ) else M_digits_163 N  σ))
set_option maxHeartbeats 4000000 in
set_option maxRecDepth 100000 in
theorem bM_digits_135 (N : Nat)  {r : Int32} {σ' : MS} (C : CxM p s m args meth c cM_digits 6 none D dA A) (x1 : Int32) (x3 : Int32) (σ : MS) (hM : M_digits_135 N  x1 x3 σ = some (r, σ')) (H : Heap) (locs : List Loc) (hW : WdM D dA h A s σ H locs) (ls : Array Slot) (hl : lv_has ls 6 [(0, .ref (h 0)), (1, .int x1), (3, .int x3)]) : W p l e rm_digits s m args below meth c H locs 0 0 (MQ below (QM D dA h A σ' none) args s 0 0 A) (F0 m 135 ls []) := by
  have hx := C.1.1
  have hb := C.1.2.1
  have hown := C.1.2.2.2.2.1
  have hT := C.1.2.2.2.2.2.1
  unfold M_digits_135 at hM
  refine lv_iload_n (pc := 135) hx hb dM_digits_135 rfl (lv_at hl 2 rfl) ?_
  refine lv_if_eq (pc := 136) (tgt := 163) hx hb dM_digits_136 (by decide) (fun hc => ?_) (fun hc => ?_)
  · replace hM := it_t hc hM
    exact bM_digits_163 N  C   _ hM _ _ hW _ (lv_sub hl [0] rfl)
  · replace hM := it_f hc hM
    refine lv_iload_n (pc := 139) hx hb dM_digits_139 rfl (lv_at hl 1 rfl) ?_
    refine lv_bipush (pc := 140) (v := 98) hx hb dM_digits_140 (by decide) ?_
    refine lv_icmp_ne (pc := 142) (tgt := 163) hx hb dM_digits_142 (by decide) (fun hc => ?_) (fun hc => ?_)
    · replace hM := it_f hc hM
      exact bM_digits_163 N  C   _ hM _ _ hW _ (lv_sub hl [0] rfl)
    · replace hM := it_t hc hM
      refine lv_aload_n (pc := 145) hx hb dM_digits_145 rfl (lv_at hl 0 rfl) ?_
      refine lv_aload_n (pc := 146) hx hb dM_digits_146 rfl (lv_at hl 0 rfl) ?_
      refine gM (pc := 147) C hW 21 (by decide) q_1678 rfl rfl dM_digits_147 ?_
      refine lv_iconst (pc := 150) (v := 2) hx hb dM_digits_150 (by decide) ?_
      refine lv_iadd (pc := 151) hx hb dM_digits_151 ?_
      refine lv_aload_n (pc := 152) hx hb dM_digits_152 rfl (lv_at hl 0 rfl) ?_
      refine gM (pc := 153) C hW 22 (by decide) q_1679 rfl rfl dM_digits_153 ?_
      refine lv_iconst (pc := 156) (v := 2) hx hb dM_digits_156 (by decide) ?_
      obtain ⟨r1, hr1, hM⟩ := cr_some hM
      refine x_callRl (pc := 157) C hW (kM_numeral l D dA h N ((σ.1 11) + (2 : Int32)) (σ.1 12) (2 : Int32) _ hr1) gM_numeral_412 ⟨rfl, by decide, by decide, by decide +kernel⟩ ⟨rfl, rfl⟩ ⟨by decide, by decide⟩ ⟨by decide, by decide⟩ (As := [.int ((σ.1 11) + (2 : Int32)), .int (σ.1 12), .int (2 : Int32)]) (n := 3) rfl hl.1 rfl (Nat.le_of_ble_eq_true rfl) dM_digits_157 ?_
      refine lv_goto (pc := 160) (tgt := 177) hx hb dM_digits_160 (by decide) ?_
      exact bM_digits_177 N  C  _ _ hM _ _ hW _ (lv_sub hl [0] rfl)
def M_digits_105 (N : Nat) (x1 : Int32) (t0 : Int32) (σ : MS) : Option (Int32 × MS) :=
  (if t0 = 0 then M_digits_135 N  x1 t0 σ else (if x1 = (120 : Int32) then cr (M_numeral N ((σ.1 11) + (2 : Int32)) (σ.1 12) (16 : Int32) σ) (fun r1 => M_digits_177 N  r1 σ) else M_digits_135 N  x1 t0 σ))
set_option maxHeartbeats 4000000 in
set_option maxRecDepth 100000 in
theorem bM_digits_105 (N : Nat)  {r : Int32} {σ' : MS} (C : CxM p s m args meth c cM_digits 6 none D dA A) (x1 : Int32) (t0 : Int32) (σ : MS) (hM : M_digits_105 N  x1 t0 σ = some (r, σ')) (H : Heap) (locs : List Loc) (hW : WdM D dA h A s σ H locs) (ls : Array Slot) (hl : lv_has ls 6 [(0, .ref (h 0)), (1, .int x1)]) : W p l e rm_digits s m args below meth c H locs 0 0 (MQ below (QM D dA h A σ' none) args s 0 0 A) (F0 m 105 ls [.int t0]) := by
  have hx := C.1.1
  have hb := C.1.2.1
  have hown := C.1.2.2.2.2.1
  have hT := C.1.2.2.2.2.2.1
  unfold M_digits_105 at hM
  refine lv_istore_n (pc := 105) (lv' := [(3, .int t0), (0, .ref (h 0)), (1, .int x1)]) hx hb dM_digits_105 rfl hl (by decide) rfl (fun ls hl => ?_)
  refine lv_iload_n (pc := 106) hx hb dM_digits_106 rfl (lv_at hl 0 rfl) ?_
  refine lv_if_eq (pc := 107) (tgt := 135) hx hb dM_digits_107 (by decide) (fun hc => ?_) (fun hc => ?_)
  · replace hM := it_t hc hM
    exact bM_digits_135 N  C  _ _ _ hM _ _ hW _ (lv_sub hl [1, 2, 0] rfl)
  · replace hM := it_f hc hM
    refine lv_iload_n (pc := 110) hx hb dM_digits_110 rfl (lv_at hl 2 rfl) ?_
    refine lv_bipush (pc := 111) (v := 120) hx hb dM_digits_111 (by decide) ?_
    refine lv_icmp_ne (pc := 113) (tgt := 135) hx hb dM_digits_113 (by decide) (fun hc => ?_) (fun hc => ?_)
    · replace hM := it_f hc hM
      exact bM_digits_135 N  C  _ _ _ hM _ _ hW _ (lv_sub hl [1, 2, 0] rfl)
    · replace hM := it_t hc hM
      refine lv_aload_n (pc := 116) hx hb dM_digits_116 rfl (lv_at hl 1 rfl) ?_
      refine lv_aload_n (pc := 117) hx hb dM_digits_117 rfl (lv_at hl 1 rfl) ?_
      refine gM (pc := 118) C hW 21 (by decide) q_1678 rfl rfl dM_digits_118 ?_
      refine lv_iconst (pc := 121) (v := 2) hx hb dM_digits_121 (by decide) ?_
      refine lv_iadd (pc := 122) hx hb dM_digits_122 ?_
      refine lv_aload_n (pc := 123) hx hb dM_digits_123 rfl (lv_at hl 1 rfl) ?_
      refine gM (pc := 124) C hW 22 (by decide) q_1679 rfl rfl dM_digits_124 ?_
      refine lv_bipush (pc := 127) (v := 16) hx hb dM_digits_127 (by decide) ?_
      obtain ⟨r1, hr1, hM⟩ := cr_some hM
      refine x_callRl (pc := 129) C hW (kM_numeral l D dA h N ((σ.1 11) + (2 : Int32)) (σ.1 12) (16 : Int32) _ hr1) gM_numeral_412 ⟨rfl, by decide, by decide, by decide +kernel⟩ ⟨rfl, rfl⟩ ⟨by decide, by decide⟩ ⟨by decide, by decide⟩ (As := [.int ((σ.1 11) + (2 : Int32)), .int (σ.1 12), .int (16 : Int32)]) (n := 3) rfl hl.1 rfl (Nat.le_of_ble_eq_true rfl) dM_digits_129 ?_
      refine lv_goto (pc := 132) (tgt := 177) hx hb dM_digits_132 (by decide) ?_
      exact bM_digits_177 N  C  _ _ hM _ _ hW _ (lv_sub hl [1] rfl)
def M_digits_59 (N : Nat) (x1 : Int32) (t0 : Int32) (σ : MS) : Option (Int32 × MS) :=
  (if t0 = 0 then gd (inB (σ.1 11) 4100) ((if (σ.2 1 (σ.1 11).toNatClampNeg) = (48 : Int32) then M_digits_105 N  x1 (1 : Int32) σ else M_digits_105 N  x1 (0 : Int32) σ)) else bnd (sF σ 10 (3 : Int32)) (fun σ2 => gd (inB (σ2.1 11) 4100) (bnd (sF σ2 13 ((σ2.2 1 (σ2.1 11).toNatClampNeg) - (48 : Int32))) (fun σ4 => some ((0 : Int32), σ4)))))
set_option maxHeartbeats 4000000 in
set_option maxRecDepth 100000 in
theorem bM_digits_59 (N : Nat)  {r : Int32} {σ' : MS} (C : CxM p s m args meth c cM_digits 6 none D dA A) (x1 : Int32) (t0 : Int32) (σ : MS) (hM : M_digits_59 N  x1 t0 σ = some (r, σ')) (H : Heap) (locs : List Loc) (hW : WdM D dA h A s σ H locs) (ls : Array Slot) (hl : lv_has ls 6 [(0, .ref (h 0)), (1, .int x1)]) : W p l e rm_digits s m args below meth c H locs 0 0 (MQ below (QM D dA h A σ' none) args s 0 0 A) (F0 m 59 ls [.int t0]) := by
  have hx := C.1.1
  have hb := C.1.2.1
  have hown := C.1.2.2.2.2.1
  have hT := C.1.2.2.2.2.2.1
  unfold M_digits_59 at hM
  refine lv_istore_n (pc := 59) (lv' := [(2, .int t0), (0, .ref (h 0)), (1, .int x1)]) hx hb dM_digits_59 rfl hl (by decide) rfl (fun ls hl => ?_)
  refine lv_iload_n (pc := 60) hx hb dM_digits_60 rfl (lv_at hl 0 rfl) ?_
  refine lv_if_eq (pc := 61) (tgt := 86) hx hb dM_digits_61 (by decide) (fun hc => ?_) (fun hc => ?_)
  · replace hM := it_t hc hM
    refine lv_aload_n (pc := 86) hx hb dM_digits_86 rfl (lv_at hl 1 rfl) ?_
    refine gM (pc := 87) C hW 6 (by decide) q_1663 rfl rfl dM_digits_87 ?_
    refine lv_aload_n (pc := 90) hx hb dM_digits_90 rfl (lv_at hl 1 rfl) ?_
    refine gM (pc := 91) C hW 21 (by decide) q_1678 rfl rfl dM_digits_91 ?_
    obtain ⟨hg1, hM⟩ := gd_some hM
    refine x_ldC (pc := 94) C hW 5 rfl hg1 dM_digits_94 ?_
    refine lv_bipush (pc := 95) (v := 48) hx hb dM_digits_95 (by decide) ?_
    refine lv_icmp_ne (pc := 97) (tgt := 104) hx hb dM_digits_97 (by decide) (fun hc => ?_) (fun hc => ?_)
    · replace hM := it_f hc hM
      refine lv_iconst (pc := 104) (v := 0) hx hb dM_digits_104 (by decide) ?_
      exact bM_digits_105 N  C  _ _ _ hM _ _ hW _ (lv_sub hl [1, 2] rfl)
    · replace hM := it_t hc hM
      refine lv_iconst (pc := 100) (v := 1) hx hb dM_digits_100 (by decide) ?_
      refine lv_goto (pc := 101) (tgt := 105) hx hb dM_digits_101 (by decide) ?_
      exact bM_digits_105 N  C  _ _ _ hM _ _ hW _ (lv_sub hl [1, 2] rfl)
  · replace hM := it_f hc hM
    refine lv_aload_n (pc := 64) hx hb dM_digits_64 rfl (lv_at hl 1 rfl) ?_
    refine lv_iconst (pc := 65) (v := 3) hx hb dM_digits_65 (by decide) ?_
    refine pM (pc := 66) (ty := .int) C hW 20 10 (by decide) q_1677 rfl rfl (by decide +kernel) rfl rfl (st_token dA h _ _) dM_digits_66 (fun H locs hW => ?_)
    obtain ⟨σ2, eσ2, hM⟩ := bnd_some hM
    rw [← eσ2] at hW
    refine lv_aload_n (pc := 69) hx hb dM_digits_69 rfl (lv_at hl 1 rfl) ?_
    refine lv_aload_n (pc := 70) hx hb dM_digits_70 rfl (lv_at hl 1 rfl) ?_
    refine gM (pc := 71) C hW 6 (by decide) q_1663 rfl rfl dM_digits_71 ?_
    refine lv_aload_n (pc := 74) hx hb dM_digits_74 rfl (lv_at hl 1 rfl) ?_
    refine gM (pc := 75) C hW 21 (by decide) q_1678 rfl rfl dM_digits_75 ?_
    obtain ⟨hg3, hM⟩ := gd_some hM
    refine x_ldC (pc := 78) C hW 5 rfl hg3 dM_digits_78 ?_
    refine lv_bipush (pc := 79) (v := 48) hx hb dM_digits_79 (by decide) ?_
    refine lv_isub (pc := 81) hx hb dM_digits_81 ?_
    refine pM (pc := 82) (ty := .int) C hW 23 13 (by decide) q_1680 rfl rfl (by decide +kernel) rfl rfl (st_number dA h _ _) dM_digits_82 (fun H locs hW => ?_)
    obtain ⟨σ4, eσ4, hM⟩ := bnd_some hM
    rw [← eσ4] at hW
    obtain ⟨rfl, rfl⟩ := sm_p hM
    exact x_retMv (pc := 85) C rfl hW dM_digits_85
def M_digits_58 (N : Nat) (x1 : Int32) (σ : MS) : Option (Int32 × MS) :=
  M_digits_59 N  x1 (0 : Int32) σ
set_option maxHeartbeats 4000000 in
set_option maxRecDepth 100000 in
theorem bM_digits_58 (N : Nat)  {r : Int32} {σ' : MS} (C : CxM p s m args meth c cM_digits 6 none D dA A) (x1 : Int32) (σ : MS) (hM : M_digits_58 N  x1 σ = some (r, σ')) (H : Heap) (locs : List Loc) (hW : WdM D dA h A s σ H locs) (ls : Array Slot) (hl : lv_has ls 6 [(0, .ref (h 0)), (1, .int x1)]) : W p l e rm_digits s m args below meth c H locs 0 0 (MQ below (QM D dA h A σ' none) args s 0 0 A) (F0 m 58 ls []) := by
  have hx := C.1.1
  have hb := C.1.2.1
  have hown := C.1.2.2.2.2.1
  have hT := C.1.2.2.2.2.2.1
  unfold M_digits_58 at hM
  refine lv_iconst (pc := 58) (v := 0) hx hb dM_digits_58 (by decide) ?_
  exact bM_digits_59 N  C  _ _ _ hM _ _ hW _ (lv_sub hl [0, 1] rfl)
def M_digits_54 (N : Nat) (x1 : Int32) (σ : MS) : Option (Int32 × MS) :=
  M_digits_59 N  x1 (1 : Int32) σ
set_option maxHeartbeats 4000000 in
set_option maxRecDepth 100000 in
theorem bM_digits_54 (N : Nat)  {r : Int32} {σ' : MS} (C : CxM p s m args meth c cM_digits 6 none D dA A) (x1 : Int32) (σ : MS) (hM : M_digits_54 N  x1 σ = some (r, σ')) (H : Heap) (locs : List Loc) (hW : WdM D dA h A s σ H locs) (ls : Array Slot) (hl : lv_has ls 6 [(0, .ref (h 0)), (1, .int x1)]) : W p l e rm_digits s m args below meth c H locs 0 0 (MQ below (QM D dA h A σ' none) args s 0 0 A) (F0 m 54 ls []) := by
  have hx := C.1.1
  have hb := C.1.2.1
  have hown := C.1.2.2.2.2.1
  have hT := C.1.2.2.2.2.2.1
  unfold M_digits_54 at hM
  refine lv_iconst (pc := 54) (v := 1) hx hb dM_digits_54 (by decide) ?_
  refine lv_goto (pc := 55) (tgt := 59) hx hb dM_digits_55 (by decide) ?_
  exact bM_digits_59 N  C  _ _ _ hM _ _ hW _ (lv_sub hl [0, 1] rfl)
def M_digits_28 (N : Nat) (t0 : Int32) (σ : MS) : Option (Int32 × MS) :=
  (if ((σ.1 12) - (σ.1 11)) = (2 : Int32) then (if t0 = (102 : Int32) then M_digits_54 N  t0 σ else (if t0 = (98 : Int32) then M_digits_54 N  t0 σ else M_digits_58 N  t0 σ)) else M_digits_58 N  t0 σ)
set_option maxHeartbeats 4000000 in
set_option maxRecDepth 100000 in
theorem bM_digits_28 (N : Nat)  {r : Int32} {σ' : MS} (C : CxM p s m args meth c cM_digits 6 none D dA A) (t0 : Int32) (σ : MS) (hM : M_digits_28 N  t0 σ = some (r, σ')) (H : Heap) (locs : List Loc) (hW : WdM D dA h A s σ H locs) (ls : Array Slot) (hl : lv_has ls 6 [(0, .ref (h 0))]) : W p l e rm_digits s m args below meth c H locs 0 0 (MQ below (QM D dA h A σ' none) args s 0 0 A) (F0 m 28 ls [.int t0]) := by
  have hx := C.1.1
  have hb := C.1.2.1
  have hown := C.1.2.2.2.2.1
  have hT := C.1.2.2.2.2.2.1
  unfold M_digits_28 at hM
  refine lv_istore_n (pc := 28) (lv' := [(1, .int t0), (0, .ref (h 0))]) hx hb dM_digits_28 rfl hl (by decide) rfl (fun ls hl => ?_)
  refine lv_aload_n (pc := 29) hx hb dM_digits_29 rfl (lv_at hl 1 rfl) ?_
  refine gM (pc := 30) C hW 22 (by decide) q_1679 rfl rfl dM_digits_30 ?_
  refine lv_aload_n (pc := 33) hx hb dM_digits_33 rfl (lv_at hl 1 rfl) ?_
  refine gM (pc := 34) C hW 21 (by decide) q_1678 rfl rfl dM_digits_34 ?_
  refine lv_isub (pc := 37) hx hb dM_digits_37 ?_
  refine lv_iconst (pc := 38) (v := 2) hx hb dM_digits_38 (by decide) ?_
  refine lv_icmp_ne (pc := 39) (tgt := 58) hx hb dM_digits_39 (by decide) (fun hc => ?_) (fun hc => ?_)
  · replace hM := it_f hc hM
    exact bM_digits_58 N  C  _ _ hM _ _ hW _ (lv_sub hl [1, 0] rfl)
  · replace hM := it_t hc hM
    refine lv_iload_n (pc := 42) hx hb dM_digits_42 rfl (lv_at hl 0 rfl) ?_
    refine lv_bipush (pc := 43) (v := 102) hx hb dM_digits_43 (by decide) ?_
    refine lv_icmp_eq (pc := 45) (tgt := 54) hx hb dM_digits_45 (by decide) (fun hc => ?_) (fun hc => ?_)
    · replace hM := it_t hc hM
      exact bM_digits_54 N  C  _ _ hM _ _ hW _ (lv_sub hl [1, 0] rfl)
    · replace hM := it_f hc hM
      refine lv_iload_n (pc := 48) hx hb dM_digits_48 rfl (lv_at hl 0 rfl) ?_
      refine lv_bipush (pc := 49) (v := 98) hx hb dM_digits_49 (by decide) ?_
      refine lv_icmp_ne (pc := 51) (tgt := 58) hx hb dM_digits_51 (by decide) (fun hc => ?_) (fun hc => ?_)
      · replace hM := it_f hc hM
        exact bM_digits_58 N  C  _ _ hM _ _ hW _ (lv_sub hl [1, 0] rfl)
      · replace hM := it_t hc hM
        exact bM_digits_54 N  C  _ _ hM _ _ hW _ (lv_sub hl [1, 0] rfl)
def M_digits (N : Nat)  (σ : MS) : Option (Int32 × MS) :=
  (if ((σ.1 12) - (σ.1 11)) ≤ (1 : Int32) then M_digits_28 N  (0 : Int32) σ else gd (inB ((σ.1 11) + (1 : Int32)) 4100) (M_digits_28 N  (σ.2 1 ((σ.1 11) + (1 : Int32)).toNatClampNeg) σ))
set_option maxHeartbeats 4000000 in
set_option maxRecDepth 100000 in
theorem bM_digits_0 (N : Nat)  {r : Int32} {σ' : MS} (C : CxM p s m args meth c cM_digits 6 none D dA A)  (σ : MS) (hM : M_digits N   σ = some (r, σ')) (H : Heap) (locs : List Loc) (hW : WdM D dA h A s σ H locs) (ls : Array Slot) (hl : lv_has ls 6 [(0, .ref (h 0))]) : W p l e rm_digits s m args below meth c H locs 0 0 (MQ below (QM D dA h A σ' none) args s 0 0 A) (F0 m 0 ls []) := by
  have hx := C.1.1
  have hb := C.1.2.1
  have hown := C.1.2.2.2.2.1
  have hT := C.1.2.2.2.2.2.1
  unfold M_digits at hM
  refine lv_aload_n (pc := 0) hx hb dM_digits_0 rfl (lv_at hl 0 rfl) ?_
  refine gM (pc := 1) C hW 22 (by decide) q_1679 rfl rfl dM_digits_1 ?_
  refine lv_aload_n (pc := 4) hx hb dM_digits_4 rfl (lv_at hl 0 rfl) ?_
  refine gM (pc := 5) C hW 21 (by decide) q_1678 rfl rfl dM_digits_5 ?_
  refine lv_isub (pc := 8) hx hb dM_digits_8 ?_
  refine lv_iconst (pc := 9) (v := 1) hx hb dM_digits_9 (by decide) ?_
  refine lv_icmp_le (pc := 10) (tgt := 27) hx hb dM_digits_10 (by decide) (fun hc => ?_) (fun hc => ?_)
  · replace hM := it_t hc hM
    refine lv_iconst (pc := 27) (v := 0) hx hb dM_digits_27 (by decide) ?_
    exact bM_digits_28 N  C  _ _ hM _ _ hW _ (lv_sub hl [0] rfl)
  · replace hM := it_f hc hM
    refine lv_aload_n (pc := 13) hx hb dM_digits_13 rfl (lv_at hl 0 rfl) ?_
    refine gM (pc := 14) C hW 6 (by decide) q_1663 rfl rfl dM_digits_14 ?_
    refine lv_aload_n (pc := 17) hx hb dM_digits_17 rfl (lv_at hl 0 rfl) ?_
    refine gM (pc := 18) C hW 21 (by decide) q_1678 rfl rfl dM_digits_18 ?_
    refine lv_iconst (pc := 21) (v := 1) hx hb dM_digits_21 (by decide) ?_
    refine lv_iadd (pc := 22) hx hb dM_digits_22 ?_
    obtain ⟨hg1, hM⟩ := gd_some hM
    refine x_ldC (pc := 23) C hW 5 rfl hg1 dM_digits_23 ?_
    refine lv_goto (pc := 24) (tgt := 28) hx hb dM_digits_24 (by decide) ?_
    exact bM_digits_28 N  C  _ _ hM _ _ hW _ (lv_sub hl [0] rfl)
theorem kM_digits (l : Launch) (D : va_G) (dA : Nat → ClassId) (h : Nat → Nat) (N : Nat)  (σ : MS) {r : Int32} {σ' : MS} (hM : M_digits N  σ = some (r, σ')) : KM l D dA yM_digits cM_digits 6 none rm_digits h σ [] none σ' := x_enterM rfl (Nat.le_of_ble_eq_true rfl) (fun p e s m args below meth c A C hW ls hl => bM_digits_0 N C  σ hM s.heap [] hW ls hl)
end
