theorem uc_0 {w : Cond} (h : w ∈ tables_1_1) (g : goodWord w = true) : w ∈ lw_gd := lw_gdm (show w ∈ tables_1 from List.mem_append_left _ h) g
theorem uc_1 {w : Cond} (h : w ∈ tables_1_2) (g : goodWord w = true) : w ∈ lw_gd := lw_gdm (show w ∈ tables_1 from List.mem_append_right _ (List.mem_append_left _ h)) g
theorem uc_2 {w : Cond} (h : w ∈ tables_1_3) (g : goodWord w = true) : w ∈ lw_gd := lw_gdm (show w ∈ tables_1 from List.mem_append_right _ (List.mem_append_right _ (List.mem_append_left _ h))) g
theorem uc_3 {w : Cond} (h : w ∈ tables_1_4) (g : goodWord w = true) : w ∈ lw_gd := lw_gdm (show w ∈ tables_1 from List.mem_append_right _ (List.mem_append_right _ (List.mem_append_right _ (List.mem_append_left _ h)))) g
theorem uc_4 {w : Cond} (h : w ∈ tables_1_5) (g : goodWord w = true) : w ∈ lw_gd := lw_gdm (show w ∈ tables_1 from List.mem_append_right _ (List.mem_append_right _ (List.mem_append_right _ (List.mem_append_right _ (List.mem_append_left _ h))))) g
theorem uc_5 {w : Cond} (h : w ∈ tables_1_6) (g : goodWord w = true) : w ∈ lw_gd := lw_gdm (show w ∈ tables_1 from List.mem_append_right _ (List.mem_append_right _ (List.mem_append_right _ (List.mem_append_right _ (List.mem_append_right _ (List.mem_append_left _ h)))))) g
theorem uc_6 {w : Cond} (h : w ∈ tables_1_7) (g : goodWord w = true) : w ∈ lw_gd := lw_gdm (show w ∈ tables_1 from List.mem_append_right _ (List.mem_append_right _ (List.mem_append_right _ (List.mem_append_right _ (List.mem_append_right _ (List.mem_append_right _ (List.mem_append_left _ h))))))) g
theorem uc_7 {w : Cond} (h : w ∈ tables_1_8) (g : goodWord w = true) : w ∈ lw_gd := lw_gdm (show w ∈ tables_1 from List.mem_append_right _ (List.mem_append_right _ (List.mem_append_right _ (List.mem_append_right _ (List.mem_append_right _ (List.mem_append_right _ (List.mem_append_right _ (List.mem_append_left _ h)))))))) g
theorem uc_8 {w : Cond} (h : w ∈ tables_1_9) (g : goodWord w = true) : w ∈ lw_gd := lw_gdm (show w ∈ tables_1 from List.mem_append_right _ (List.mem_append_right _ (List.mem_append_right _ (List.mem_append_right _ (List.mem_append_right _ (List.mem_append_right _ (List.mem_append_right _ (List.mem_append_right _ (List.mem_append_left _ h))))))))) g
theorem uc_9 {w : Cond} (h : w ∈ tables_1_10) (g : goodWord w = true) : w ∈ lw_gd := lw_gdm (show w ∈ tables_1 from List.mem_append_right _ (List.mem_append_right _ (List.mem_append_right _ (List.mem_append_right _ (List.mem_append_right _ (List.mem_append_right _ (List.mem_append_right _ (List.mem_append_right _ (List.mem_append_right _ (List.mem_append_left _ h)))))))))) g
theorem uc_10 {w : Cond} (h : w ∈ tables_1_11) (g : goodWord w = true) : w ∈ lw_gd := lw_gdm (show w ∈ tables_1 from List.mem_append_right _ (List.mem_append_right _ (List.mem_append_right _ (List.mem_append_right _ (List.mem_append_right _ (List.mem_append_right _ (List.mem_append_right _ (List.mem_append_right _ (List.mem_append_right _ (List.mem_append_right _ (h))))))))))) g
theorem qc_19 : (Jvm.Cond.initialized "LineAssembler$Lexer") ∈ lw_gd := uc_0 (List.mem_of_getElem? (i := 19) (by decide +kernel)) (by decide +kernel)
theorem qc_35 : (Jvm.Cond.initialized "LineAssembler$Fields") ∈ lw_gd := uc_0 (List.mem_of_getElem? (i := 35) (by decide +kernel)) (by decide +kernel)
theorem qc_1018 : (Jvm.Cond.methodLink "LineAssembler$Lexer" (59 : Nat) ({ cls := "LineAssembler$Lexer", name := "isDigit", desc := "(I)Z" } : Jvm.MethodName)) ∈ lw_gd := uc_4 (List.mem_of_getElem? (i := 58) (by decide +kernel)) (by decide +kernel)
theorem qc_1019 : (Jvm.Cond.static ({ cls := "LineAssembler$Lexer", name := "isDigit", desc := "(I)Z" } : Jvm.MethodName)) ∈ lw_gd := uc_4 (List.mem_of_getElem? (i := 59) (by decide +kernel)) (by decide +kernel)
theorem qc_1020 : (Jvm.Cond.code ({ cls := "LineAssembler$Lexer", name := "isDigit", desc := "(I)Z" } : Jvm.MethodName) prog_6_method_13_code (1 : Nat) (Option.some Jvm.ClassFile.FieldType.boolean)) ∈ lw_gd := uc_4 (List.mem_of_getElem? (i := 60) (by decide +kernel)) (by decide +kernel)
theorem qc_1244 : (Jvm.Cond.methodLink "LineAssembler$Fields" (17 : Nat) ({ cls := "LineAssembler$Fields", name := "isWithin", desc := "(IIII)Z" } : Jvm.MethodName)) ∈ lw_gd := uc_5 (List.mem_of_getElem? (i := 44) (by decide +kernel)) (by decide +kernel)
theorem qc_1245 : (Jvm.Cond.static ({ cls := "LineAssembler$Fields", name := "isWithin", desc := "(IIII)Z" } : Jvm.MethodName)) ∈ lw_gd := uc_5 (List.mem_of_getElem? (i := 45) (by decide +kernel)) (by decide +kernel)
theorem qc_1246 : (Jvm.Cond.code ({ cls := "LineAssembler$Fields", name := "isWithin", desc := "(IIII)Z" } : Jvm.MethodName) prog_3_method_10_code (4 : Nat) (Option.some Jvm.ClassFile.FieldType.boolean)) ∈ lw_gd := uc_5 (List.mem_of_getElem? (i := 46) (by decide +kernel)) (by decide +kernel)
theorem qc_1247 : (Jvm.Cond.constant "LineAssembler$Fields" (21 : Nat) (1048575 : Int32)) ∈ lw_gd := uc_5 (List.mem_of_getElem? (i := 47) (by decide +kernel)) (by decide +kernel)
theorem qc_1248 : (Jvm.Cond.constant "LineAssembler$Fields" (22 : Nat) (-1048576 : Int32)) ∈ lw_gd := uc_5 (List.mem_of_getElem? (i := 48) (by decide +kernel)) (by decide +kernel)
theorem qc_1249 : (Jvm.Cond.constant "LineAssembler$Fields" (23 : Nat) (1048574 : Int32)) ∈ lw_gd := uc_5 (List.mem_of_getElem? (i := 49) (by decide +kernel)) (by decide +kernel)
theorem qc_1253 : (Jvm.Cond.methodLink "LineAssembler$Fields" (24 : Nat) ({ cls := "LineAssembler$Fields", name := "pick", desc := "(IIII)I" } : Jvm.MethodName)) ∈ lw_gd := uc_5 (List.mem_of_getElem? (i := 53) (by decide +kernel)) (by decide +kernel)
theorem qc_1254 : (Jvm.Cond.static ({ cls := "LineAssembler$Fields", name := "pick", desc := "(IIII)I" } : Jvm.MethodName)) ∈ lw_gd := uc_5 (List.mem_of_getElem? (i := 54) (by decide +kernel)) (by decide +kernel)
theorem qc_1255 : (Jvm.Cond.code ({ cls := "LineAssembler$Fields", name := "pick", desc := "(IIII)I" } : Jvm.MethodName) prog_3_method_11_code (4 : Nat) (Option.some Jvm.ClassFile.FieldType.int)) ∈ lw_gd := uc_5 (List.mem_of_getElem? (i := 55) (by decide +kernel)) (by decide +kernel)
theorem qc_1256 : (Jvm.Cond.methodLink "LineAssembler$Fields" (28 : Nat) ({ cls := "LineAssembler$Fields", name := "scatterShort", desc := "(II)I" } : Jvm.MethodName)) ∈ lw_gd := uc_5 (List.mem_of_getElem? (i := 56) (by decide +kernel)) (by decide +kernel)
theorem qc_1257 : (Jvm.Cond.static ({ cls := "LineAssembler$Fields", name := "scatterShort", desc := "(II)I" } : Jvm.MethodName)) ∈ lw_gd := uc_5 (List.mem_of_getElem? (i := 57) (by decide +kernel)) (by decide +kernel)
theorem qc_1258 : (Jvm.Cond.code ({ cls := "LineAssembler$Fields", name := "scatterShort", desc := "(II)I" } : Jvm.MethodName) prog_3_method_9_code (2 : Nat) (Option.some Jvm.ClassFile.FieldType.int)) ∈ lw_gd := uc_5 (List.mem_of_getElem? (i := 58) (by decide +kernel)) (by decide +kernel)
abbrev cC_Fie_isWithin : ByteArray := prog_3_method_10_code
def yC_Fie_isWithin : MethodName := ⟨"LineAssembler$Fields", "isWithin", "(IIII)Z"⟩
abbrev rm_Fie_isWithin : Room := { frames := 0, cells := 0, slots := 0, locals := 0 }
theorem dC_Fie_isWithin_0 : decode cC_Fie_isWithin 0 = .ok (.iload_n 0, 1) := by decide +kernel
theorem dC_Fie_isWithin_1 : decode cC_Fie_isWithin 1 = .ok (.iload_n 1, 1) := by decide +kernel
theorem dC_Fie_isWithin_2 : decode cC_Fie_isWithin 2 = .ok (.if_icmp .lt (20), 3) := by decide +kernel
theorem dC_Fie_isWithin_5 : decode cC_Fie_isWithin 5 = .ok (.iload_n 0, 1) := by decide +kernel
theorem dC_Fie_isWithin_6 : decode cC_Fie_isWithin 6 = .ok (.iload_n 2, 1) := by decide +kernel
theorem dC_Fie_isWithin_7 : decode cC_Fie_isWithin 7 = .ok (.if_icmp .gt (15), 3) := by decide +kernel
theorem dC_Fie_isWithin_10 : decode cC_Fie_isWithin 10 = .ok (.iload_n 0, 1) := by decide +kernel
theorem dC_Fie_isWithin_11 : decode cC_Fie_isWithin 11 = .ok (.iload_n 3, 1) := by decide +kernel
theorem dC_Fie_isWithin_12 : decode cC_Fie_isWithin 12 = .ok (.iconst (1), 1) := by decide +kernel
theorem dC_Fie_isWithin_13 : decode cC_Fie_isWithin 13 = .ok (.isub, 1) := by decide +kernel
theorem dC_Fie_isWithin_14 : decode cC_Fie_isWithin 14 = .ok (.iand, 1) := by decide +kernel
theorem dC_Fie_isWithin_15 : decode cC_Fie_isWithin 15 = .ok (.ifCond .ne (7), 3) := by decide +kernel
theorem dC_Fie_isWithin_18 : decode cC_Fie_isWithin 18 = .ok (.iconst (1), 1) := by decide +kernel
theorem dC_Fie_isWithin_19 : decode cC_Fie_isWithin 19 = .ok (.goto (4), 3) := by decide +kernel
theorem dC_Fie_isWithin_22 : decode cC_Fie_isWithin 22 = .ok (.iconst (0), 1) := by decide +kernel
theorem dC_Fie_isWithin_23 : decode cC_Fie_isWithin 23 = .ok (.ireturn, 1) := by decide +kernel
abbrev cC_Fie_pick : ByteArray := prog_3_method_11_code
def yC_Fie_pick : MethodName := ⟨"LineAssembler$Fields", "pick", "(IIII)I"⟩
abbrev rm_Fie_pick : Room := { frames := 0, cells := 0, slots := 0, locals := 0 }
theorem dC_Fie_pick_0 : decode cC_Fie_pick 0 = .ok (.iload_n 0, 1) := by decide +kernel
theorem dC_Fie_pick_1 : decode cC_Fie_pick 1 = .ok (.iload_n 1, 1) := by decide +kernel
theorem dC_Fie_pick_2 : decode cC_Fie_pick 2 = .ok (.ishr, 1) := by decide +kernel
theorem dC_Fie_pick_3 : decode cC_Fie_pick 3 = .ok (.iconst (1), 1) := by decide +kernel
theorem dC_Fie_pick_4 : decode cC_Fie_pick 4 = .ok (.iload_n 2, 1) := by decide +kernel
theorem dC_Fie_pick_5 : decode cC_Fie_pick 5 = .ok (.ishl, 1) := by decide +kernel
theorem dC_Fie_pick_6 : decode cC_Fie_pick 6 = .ok (.iconst (1), 1) := by decide +kernel
theorem dC_Fie_pick_7 : decode cC_Fie_pick 7 = .ok (.isub, 1) := by decide +kernel
theorem dC_Fie_pick_8 : decode cC_Fie_pick 8 = .ok (.iand, 1) := by decide +kernel
theorem dC_Fie_pick_9 : decode cC_Fie_pick 9 = .ok (.iload_n 3, 1) := by decide +kernel
theorem dC_Fie_pick_10 : decode cC_Fie_pick 10 = .ok (.ishl, 1) := by decide +kernel
theorem dC_Fie_pick_11 : decode cC_Fie_pick 11 = .ok (.ireturn, 1) := by decide +kernel
abbrev cC_Fie_registerBits : ByteArray := prog_3_method_3_code
def yC_Fie_registerBits : MethodName := ⟨"LineAssembler$Fields", "registerBits", "(II)I"⟩
abbrev rm_Fie_registerBits : Room := { frames := 0, cells := 0, slots := 0, locals := 0 }
theorem dC_Fie_registerBits_0 : decode cC_Fie_registerBits 0 = .ok (.iload_n 1, 1) := by decide +kernel
theorem dC_Fie_registerBits_1 : decode cC_Fie_registerBits 1 = .ok (.bipush (8), 2) := by decide +kernel
theorem dC_Fie_registerBits_3 : decode cC_Fie_registerBits 3 = .ok (.if_icmp .lt (13), 3) := by decide +kernel
theorem dC_Fie_registerBits_6 : decode cC_Fie_registerBits 6 = .ok (.iload_n 1, 1) := by decide +kernel
theorem dC_Fie_registerBits_7 : decode cC_Fie_registerBits 7 = .ok (.bipush (15), 2) := by decide +kernel
theorem dC_Fie_registerBits_9 : decode cC_Fie_registerBits 9 = .ok (.if_icmp .gt (7), 3) := by decide +kernel
theorem dC_Fie_registerBits_12 : decode cC_Fie_registerBits 12 = .ok (.iconst (1), 1) := by decide +kernel
theorem dC_Fie_registerBits_13 : decode cC_Fie_registerBits 13 = .ok (.goto (4), 3) := by decide +kernel
theorem dC_Fie_registerBits_16 : decode cC_Fie_registerBits 16 = .ok (.iconst (0), 1) := by decide +kernel
theorem dC_Fie_registerBits_17 : decode cC_Fie_registerBits 17 = .ok (.istore_n 2, 1) := by decide +kernel
theorem dC_Fie_registerBits_18 : decode cC_Fie_registerBits 18 = .ok (.iload_n 0, 1) := by decide +kernel
theorem dC_Fie_registerBits_19 : decode cC_Fie_registerBits 19 = .ok (.lookupswitch (170) #[(65, 154), (68, 139), (97, 86), (98, 91), (100, 81), (108, 113), (109, 127), (110, 100), (115, 96)], 81) := by decide +kernel
theorem dC_Fie_registerBits_100 : decode cC_Fie_registerBits 100 = .ok (.iload_n 1, 1) := by decide +kernel
theorem dC_Fie_registerBits_101 : decode cC_Fie_registerBits 101 = .ok (.bipush (7), 2) := by decide +kernel
theorem dC_Fie_registerBits_103 : decode cC_Fie_registerBits 103 = .ok (.ishl, 1) := by decide +kernel
theorem dC_Fie_registerBits_104 : decode cC_Fie_registerBits 104 = .ok (.ireturn, 1) := by decide +kernel
theorem dC_Fie_registerBits_105 : decode cC_Fie_registerBits 105 = .ok (.iload_n 1, 1) := by decide +kernel
theorem dC_Fie_registerBits_106 : decode cC_Fie_registerBits 106 = .ok (.bipush (15), 2) := by decide +kernel
theorem dC_Fie_registerBits_108 : decode cC_Fie_registerBits 108 = .ok (.ishl, 1) := by decide +kernel
theorem dC_Fie_registerBits_109 : decode cC_Fie_registerBits 109 = .ok (.ireturn, 1) := by decide +kernel
theorem dC_Fie_registerBits_110 : decode cC_Fie_registerBits 110 = .ok (.iload_n 1, 1) := by decide +kernel
theorem dC_Fie_registerBits_111 : decode cC_Fie_registerBits 111 = .ok (.bipush (20), 2) := by decide +kernel
theorem dC_Fie_registerBits_113 : decode cC_Fie_registerBits 113 = .ok (.ishl, 1) := by decide +kernel
theorem dC_Fie_registerBits_114 : decode cC_Fie_registerBits 114 = .ok (.ireturn, 1) := by decide +kernel
theorem dC_Fie_registerBits_115 : decode cC_Fie_registerBits 115 = .ok (.iload_n 1, 1) := by decide +kernel
theorem dC_Fie_registerBits_116 : decode cC_Fie_registerBits 116 = .ok (.iconst (2), 1) := by decide +kernel
theorem dC_Fie_registerBits_117 : decode cC_Fie_registerBits 117 = .ok (.ishl, 1) := by decide +kernel
theorem dC_Fie_registerBits_118 : decode cC_Fie_registerBits 118 = .ok (.ireturn, 1) := by decide +kernel
theorem dC_Fie_registerBits_119 : decode cC_Fie_registerBits 119 = .ok (.iload_n 1, 1) := by decide +kernel
theorem dC_Fie_registerBits_120 : decode cC_Fie_registerBits 120 = .ok (.ifCond .ne (7), 3) := by decide +kernel
theorem dC_Fie_registerBits_123 : decode cC_Fie_registerBits 123 = .ok (.iconst (-1), 1) := by decide +kernel
theorem dC_Fie_registerBits_124 : decode cC_Fie_registerBits 124 = .ok (.goto (7), 3) := by decide +kernel
theorem dC_Fie_registerBits_127 : decode cC_Fie_registerBits 127 = .ok (.iload_n 1, 1) := by decide +kernel
theorem dC_Fie_registerBits_128 : decode cC_Fie_registerBits 128 = .ok (.bipush (7), 2) := by decide +kernel
theorem dC_Fie_registerBits_130 : decode cC_Fie_registerBits 130 = .ok (.ishl, 1) := by decide +kernel
theorem dC_Fie_registerBits_131 : decode cC_Fie_registerBits 131 = .ok (.ireturn, 1) := by decide +kernel
theorem dC_Fie_registerBits_132 : decode cC_Fie_registerBits 132 = .ok (.iload_n 1, 1) := by decide +kernel
theorem dC_Fie_registerBits_133 : decode cC_Fie_registerBits 133 = .ok (.iconst (2), 1) := by decide +kernel
theorem dC_Fie_registerBits_134 : decode cC_Fie_registerBits 134 = .ok (.if_icmp .ne (7), 3) := by decide +kernel
theorem dC_Fie_registerBits_137 : decode cC_Fie_registerBits 137 = .ok (.iconst (-1), 1) := by decide +kernel
theorem dC_Fie_registerBits_138 : decode cC_Fie_registerBits 138 = .ok (.goto (7), 3) := by decide +kernel
theorem dC_Fie_registerBits_141 : decode cC_Fie_registerBits 141 = .ok (.iload_n 1, 1) := by decide +kernel
theorem dC_Fie_registerBits_142 : decode cC_Fie_registerBits 142 = .ok (.bipush (7), 2) := by decide +kernel
theorem dC_Fie_registerBits_144 : decode cC_Fie_registerBits 144 = .ok (.ishl, 1) := by decide +kernel
theorem dC_Fie_registerBits_145 : decode cC_Fie_registerBits 145 = .ok (.ireturn, 1) := by decide +kernel
theorem dC_Fie_registerBits_146 : decode cC_Fie_registerBits 146 = .ok (.iload_n 1, 1) := by decide +kernel
theorem dC_Fie_registerBits_147 : decode cC_Fie_registerBits 147 = .ok (.ifCond .ne (7), 3) := by decide +kernel
theorem dC_Fie_registerBits_150 : decode cC_Fie_registerBits 150 = .ok (.iconst (-1), 1) := by decide +kernel
theorem dC_Fie_registerBits_151 : decode cC_Fie_registerBits 151 = .ok (.goto (6), 3) := by decide +kernel
theorem dC_Fie_registerBits_154 : decode cC_Fie_registerBits 154 = .ok (.iload_n 1, 1) := by decide +kernel
theorem dC_Fie_registerBits_155 : decode cC_Fie_registerBits 155 = .ok (.iconst (2), 1) := by decide +kernel
theorem dC_Fie_registerBits_156 : decode cC_Fie_registerBits 156 = .ok (.ishl, 1) := by decide +kernel
theorem dC_Fie_registerBits_157 : decode cC_Fie_registerBits 157 = .ok (.ireturn, 1) := by decide +kernel
theorem dC_Fie_registerBits_158 : decode cC_Fie_registerBits 158 = .ok (.iload_n 2, 1) := by decide +kernel
theorem dC_Fie_registerBits_159 : decode cC_Fie_registerBits 159 = .ok (.ifCond .eq (12), 3) := by decide +kernel
theorem dC_Fie_registerBits_162 : decode cC_Fie_registerBits 162 = .ok (.iload_n 1, 1) := by decide +kernel
theorem dC_Fie_registerBits_163 : decode cC_Fie_registerBits 163 = .ok (.bipush (8), 2) := by decide +kernel
theorem dC_Fie_registerBits_165 : decode cC_Fie_registerBits 165 = .ok (.isub, 1) := by decide +kernel
theorem dC_Fie_registerBits_166 : decode cC_Fie_registerBits 166 = .ok (.iconst (2), 1) := by decide +kernel
theorem dC_Fie_registerBits_167 : decode cC_Fie_registerBits 167 = .ok (.ishl, 1) := by decide +kernel
theorem dC_Fie_registerBits_168 : decode cC_Fie_registerBits 168 = .ok (.goto (4), 3) := by decide +kernel
theorem dC_Fie_registerBits_171 : decode cC_Fie_registerBits 171 = .ok (.iconst (-1), 1) := by decide +kernel
theorem dC_Fie_registerBits_172 : decode cC_Fie_registerBits 172 = .ok (.ireturn, 1) := by decide +kernel
theorem dC_Fie_registerBits_173 : decode cC_Fie_registerBits 173 = .ok (.iload_n 2, 1) := by decide +kernel
theorem dC_Fie_registerBits_174 : decode cC_Fie_registerBits 174 = .ok (.ifCond .eq (13), 3) := by decide +kernel
theorem dC_Fie_registerBits_177 : decode cC_Fie_registerBits 177 = .ok (.iload_n 1, 1) := by decide +kernel
theorem dC_Fie_registerBits_178 : decode cC_Fie_registerBits 178 = .ok (.bipush (8), 2) := by decide +kernel
theorem dC_Fie_registerBits_180 : decode cC_Fie_registerBits 180 = .ok (.isub, 1) := by decide +kernel
theorem dC_Fie_registerBits_181 : decode cC_Fie_registerBits 181 = .ok (.bipush (7), 2) := by decide +kernel
theorem dC_Fie_registerBits_183 : decode cC_Fie_registerBits 183 = .ok (.ishl, 1) := by decide +kernel
theorem dC_Fie_registerBits_184 : decode cC_Fie_registerBits 184 = .ok (.goto (4), 3) := by decide +kernel
theorem dC_Fie_registerBits_187 : decode cC_Fie_registerBits 187 = .ok (.iconst (-1), 1) := by decide +kernel
theorem dC_Fie_registerBits_188 : decode cC_Fie_registerBits 188 = .ok (.ireturn, 1) := by decide +kernel
theorem dC_Fie_registerBits_189 : decode cC_Fie_registerBits 189 = .ok (.iconst (-1), 1) := by decide +kernel
theorem dC_Fie_registerBits_190 : decode cC_Fie_registerBits 190 = .ok (.ireturn, 1) := by decide +kernel
abbrev cC_Fie_firstLength : ByteArray := prog_3_method_4_code
def yC_Fie_firstLength : MethodName := ⟨"LineAssembler$Fields", "firstLength", "(II)I"⟩
abbrev rm_Fie_firstLength : Room := { frames := 0, cells := 0, slots := 0, locals := 0 }
theorem dC_Fie_firstLength_0 : decode cC_Fie_firstLength 0 = .ok (.iload_n 0, 1) := by decide +kernel
theorem dC_Fie_firstLength_1 : decode cC_Fie_firstLength 1 = .ok (.lookupswitch (58) #[(64, 55), (120, 35), (122, 37)], 35) := by decide +kernel
theorem dC_Fie_firstLength_36 : decode cC_Fie_firstLength 36 = .ok (.iconst (2), 1) := by decide +kernel
theorem dC_Fie_firstLength_37 : decode cC_Fie_firstLength 37 = .ok (.ireturn, 1) := by decide +kernel
theorem dC_Fie_firstLength_38 : decode cC_Fie_firstLength 38 = .ok (.iload_n 1, 1) := by decide +kernel
theorem dC_Fie_firstLength_39 : decode cC_Fie_firstLength 39 = .ok (.bipush (15), 2) := by decide +kernel
theorem dC_Fie_firstLength_41 : decode cC_Fie_firstLength 41 = .ok (.ishr, 1) := by decide +kernel
theorem dC_Fie_firstLength_42 : decode cC_Fie_firstLength 42 = .ok (.bipush (24), 2) := by decide +kernel
theorem dC_Fie_firstLength_44 : decode cC_Fie_firstLength 44 = .ok (.iand, 1) := by decide +kernel
theorem dC_Fie_firstLength_45 : decode cC_Fie_firstLength 45 = .ok (.bipush (8), 2) := by decide +kernel
theorem dC_Fie_firstLength_47 : decode cC_Fie_firstLength 47 = .ok (.if_icmp .ne (7), 3) := by decide +kernel
theorem dC_Fie_firstLength_50 : decode cC_Fie_firstLength 50 = .ok (.iconst (2), 1) := by decide +kernel
theorem dC_Fie_firstLength_51 : decode cC_Fie_firstLength 51 = .ok (.goto (4), 3) := by decide +kernel
theorem dC_Fie_firstLength_54 : decode cC_Fie_firstLength 54 = .ok (.iconst (4), 1) := by decide +kernel
theorem dC_Fie_firstLength_55 : decode cC_Fie_firstLength 55 = .ok (.ireturn, 1) := by decide +kernel
theorem dC_Fie_firstLength_56 : decode cC_Fie_firstLength 56 = .ok (.bipush (8), 2) := by decide +kernel
theorem dC_Fie_firstLength_58 : decode cC_Fie_firstLength 58 = .ok (.ireturn, 1) := by decide +kernel
theorem dC_Fie_firstLength_59 : decode cC_Fie_firstLength 59 = .ok (.iload_n 1, 1) := by decide +kernel
theorem dC_Fie_firstLength_60 : decode cC_Fie_firstLength 60 = .ok (.iconst (3), 1) := by decide +kernel
theorem dC_Fie_firstLength_61 : decode cC_Fie_firstLength 61 = .ok (.iand, 1) := by decide +kernel
theorem dC_Fie_firstLength_62 : decode cC_Fie_firstLength 62 = .ok (.iconst (3), 1) := by decide +kernel
theorem dC_Fie_firstLength_63 : decode cC_Fie_firstLength 63 = .ok (.if_icmp .ne (7), 3) := by decide +kernel
theorem dC_Fie_firstLength_66 : decode cC_Fie_firstLength 66 = .ok (.iconst (4), 1) := by decide +kernel
theorem dC_Fie_firstLength_67 : decode cC_Fie_firstLength 67 = .ok (.goto (4), 3) := by decide +kernel
theorem dC_Fie_firstLength_70 : decode cC_Fie_firstLength 70 = .ok (.iconst (2), 1) := by decide +kernel
theorem dC_Fie_firstLength_71 : decode cC_Fie_firstLength 71 = .ok (.ireturn, 1) := by decide +kernel
abbrev cC_Fie_lastLength : ByteArray := prog_3_method_5_code
def yC_Fie_lastLength : MethodName := ⟨"LineAssembler$Fields", "lastLength", "(I)I"⟩
abbrev rm_Fie_lastLength : Room := { frames := 0, cells := 0, slots := 0, locals := 0 }
theorem dC_Fie_lastLength_0 : decode cC_Fie_lastLength 0 = .ok (.iload_n 0, 1) := by decide +kernel
theorem dC_Fie_lastLength_1 : decode cC_Fie_lastLength 1 = .ok (.bipush (120), 2) := by decide +kernel
theorem dC_Fie_lastLength_3 : decode cC_Fie_lastLength 3 = .ok (.if_icmp .ne (7), 3) := by decide +kernel
theorem dC_Fie_lastLength_6 : decode cC_Fie_lastLength 6 = .ok (.iconst (4), 1) := by decide +kernel
theorem dC_Fie_lastLength_7 : decode cC_Fie_lastLength 7 = .ok (.goto (21), 3) := by decide +kernel
theorem dC_Fie_lastLength_10 : decode cC_Fie_lastLength 10 = .ok (.iload_n 0, 1) := by decide +kernel
theorem dC_Fie_lastLength_11 : decode cC_Fie_lastLength 11 = .ok (.bipush (122), 2) := by decide +kernel
theorem dC_Fie_lastLength_13 : decode cC_Fie_lastLength 13 = .ok (.if_icmp .eq (9), 3) := by decide +kernel
theorem dC_Fie_lastLength_16 : decode cC_Fie_lastLength 16 = .ok (.iload_n 0, 1) := by decide +kernel
theorem dC_Fie_lastLength_17 : decode cC_Fie_lastLength 17 = .ok (.bipush (116), 2) := by decide +kernel
theorem dC_Fie_lastLength_19 : decode cC_Fie_lastLength 19 = .ok (.if_icmp .ne (8), 3) := by decide +kernel
theorem dC_Fie_lastLength_22 : decode cC_Fie_lastLength 22 = .ok (.bipush (8), 2) := by decide +kernel
theorem dC_Fie_lastLength_24 : decode cC_Fie_lastLength 24 = .ok (.goto (4), 3) := by decide +kernel
theorem dC_Fie_lastLength_27 : decode cC_Fie_lastLength 27 = .ok (.iconst (0), 1) := by decide +kernel
theorem dC_Fie_lastLength_28 : decode cC_Fie_lastLength 28 = .ok (.ireturn, 1) := by decide +kernel
abbrev cC_Fie_markFor : ByteArray := prog_3_method_6_code
def yC_Fie_markFor : MethodName := ⟨"LineAssembler$Fields", "markFor", "(II)I"⟩
abbrev rm_Fie_markFor : Room := { frames := 0, cells := 0, slots := 0, locals := 0 }
theorem dC_Fie_markFor_0 : decode cC_Fie_markFor 0 = .ok (.iload_n 0, 1) := by decide +kernel
theorem dC_Fie_markFor_1 : decode cC_Fie_markFor 1 = .ok (.lookupswitch (71) #[(116, 48), (120, 35), (122, 48)], 35) := by decide +kernel
theorem dC_Fie_markFor_36 : decode cC_Fie_markFor 36 = .ok (.iload_n 1, 1) := by decide +kernel
theorem dC_Fie_markFor_37 : decode cC_Fie_markFor 37 = .ok (.iconst (2), 1) := by decide +kernel
theorem dC_Fie_markFor_38 : decode cC_Fie_markFor 38 = .ok (.if_icmp .ne (8), 3) := by decide +kernel
theorem dC_Fie_markFor_41 : decode cC_Fie_markFor 41 = .ok (.bipush (74), 2) := by decide +kernel
theorem dC_Fie_markFor_43 : decode cC_Fie_markFor 43 = .ok (.goto (5), 3) := by decide +kernel
theorem dC_Fie_markFor_46 : decode cC_Fie_markFor 46 = .ok (.bipush (106), 2) := by decide +kernel
theorem dC_Fie_markFor_48 : decode cC_Fie_markFor 48 = .ok (.ireturn, 1) := by decide +kernel
theorem dC_Fie_markFor_49 : decode cC_Fie_markFor 49 = .ok (.iload_n 1, 1) := by decide +kernel
theorem dC_Fie_markFor_50 : decode cC_Fie_markFor 50 = .ok (.iconst (2), 1) := by decide +kernel
theorem dC_Fie_markFor_51 : decode cC_Fie_markFor 51 = .ok (.if_icmp .ne (8), 3) := by decide +kernel
theorem dC_Fie_markFor_54 : decode cC_Fie_markFor 54 = .ok (.bipush (66), 2) := by decide +kernel
theorem dC_Fie_markFor_56 : decode cC_Fie_markFor 56 = .ok (.goto (15), 3) := by decide +kernel
theorem dC_Fie_markFor_59 : decode cC_Fie_markFor 59 = .ok (.iload_n 1, 1) := by decide +kernel
theorem dC_Fie_markFor_60 : decode cC_Fie_markFor 60 = .ok (.iconst (4), 1) := by decide +kernel
theorem dC_Fie_markFor_61 : decode cC_Fie_markFor 61 = .ok (.if_icmp .ne (8), 3) := by decide +kernel
theorem dC_Fie_markFor_64 : decode cC_Fie_markFor 64 = .ok (.bipush (116), 2) := by decide +kernel
theorem dC_Fie_markFor_66 : decode cC_Fie_markFor 66 = .ok (.goto (5), 3) := by decide +kernel
theorem dC_Fie_markFor_69 : decode cC_Fie_markFor 69 = .ok (.bipush (106), 2) := by decide +kernel
theorem dC_Fie_markFor_71 : decode cC_Fie_markFor 71 = .ok (.ireturn, 1) := by decide +kernel
theorem dC_Fie_markFor_72 : decode cC_Fie_markFor 72 = .ok (.iload_n 0, 1) := by decide +kernel
theorem dC_Fie_markFor_73 : decode cC_Fie_markFor 73 = .ok (.ireturn, 1) := by decide +kernel
abbrev cC_Fie_fits : ByteArray := prog_3_method_7_code
def yC_Fie_fits : MethodName := ⟨"LineAssembler$Fields", "fits", "(II)Z"⟩
abbrev rm_Fie_fits : Room := { frames := 1, cells := 0, slots := 0, locals := 23 }
theorem dC_Fie_fits_0 : decode cC_Fie_fits 0 = .ok (.iload_n 0, 1) := by decide +kernel
theorem dC_Fie_fits_1 : decode cC_Fie_fits 1 = .ok (.tableswitch (449) (52) (119) #[395, 449, 414, 449, 449, 449, 449, 449, 449, 449, 449, 449, 449, 449, 351, 449, 449, 449, 449, 449, 299, 449, 339, 449, 439, 449, 363, 449, 449, 449, 449, 439, 449, 373, 449, 449, 449, 449, 449, 449, 449, 449, 449, 449, 449, 449, 449, 449, 449, 449, 449, 449, 299, 287, 329, 449, 449, 449, 449, 287, 449, 449, 449, 449, 317, 308, 449, 405], 287) := by decide +kernel
theorem dC_Fie_fits_288 : decode cC_Fie_fits 288 = .ok (.iload_n 1, 1) := by decide +kernel
theorem dC_Fie_fits_289 : decode cC_Fie_fits 289 = .ok (.sipush (-2048), 3) := by decide +kernel
theorem dC_Fie_fits_292 : decode cC_Fie_fits 292 = .ok (.sipush (2047), 3) := by decide +kernel
theorem dC_Fie_fits_295 : decode cC_Fie_fits 295 = .ok (.iconst (1), 1) := by decide +kernel
theorem dC_Fie_fits_296 : decode cC_Fie_fits 296 = .ok (.invokestatic 17, 3) := by decide +kernel
theorem dC_Fie_fits_299 : decode cC_Fie_fits 299 = .ok (.ireturn, 1) := by decide +kernel
theorem dC_Fie_fits_300 : decode cC_Fie_fits 300 = .ok (.iload_n 1, 1) := by decide +kernel
theorem dC_Fie_fits_301 : decode cC_Fie_fits 301 = .ok (.iconst (0), 1) := by decide +kernel
theorem dC_Fie_fits_302 : decode cC_Fie_fits 302 = .ok (.bipush (31), 2) := by decide +kernel
theorem dC_Fie_fits_304 : decode cC_Fie_fits 304 = .ok (.iconst (1), 1) := by decide +kernel
theorem dC_Fie_fits_305 : decode cC_Fie_fits 305 = .ok (.invokestatic 17, 3) := by decide +kernel
theorem dC_Fie_fits_308 : decode cC_Fie_fits 308 = .ok (.ireturn, 1) := by decide +kernel
theorem dC_Fie_fits_309 : decode cC_Fie_fits 309 = .ok (.iload_n 1, 1) := by decide +kernel
theorem dC_Fie_fits_310 : decode cC_Fie_fits 310 = .ok (.iconst (0), 1) := by decide +kernel
theorem dC_Fie_fits_311 : decode cC_Fie_fits 311 = .ok (.ldc 21, 2) := by decide +kernel
theorem dC_Fie_fits_313 : decode cC_Fie_fits 313 = .ok (.iconst (1), 1) := by decide +kernel
theorem dC_Fie_fits_314 : decode cC_Fie_fits 314 = .ok (.invokestatic 17, 3) := by decide +kernel
theorem dC_Fie_fits_317 : decode cC_Fie_fits 317 = .ok (.ireturn, 1) := by decide +kernel
theorem dC_Fie_fits_318 : decode cC_Fie_fits 318 = .ok (.iload_n 1, 1) := by decide +kernel
theorem dC_Fie_fits_319 : decode cC_Fie_fits 319 = .ok (.sipush (-4096), 3) := by decide +kernel
theorem dC_Fie_fits_322 : decode cC_Fie_fits 322 = .ok (.sipush (4094), 3) := by decide +kernel
theorem dC_Fie_fits_325 : decode cC_Fie_fits 325 = .ok (.iconst (2), 1) := by decide +kernel
theorem dC_Fie_fits_326 : decode cC_Fie_fits 326 = .ok (.invokestatic 17, 3) := by decide +kernel
theorem dC_Fie_fits_329 : decode cC_Fie_fits 329 = .ok (.ireturn, 1) := by decide +kernel
theorem dC_Fie_fits_330 : decode cC_Fie_fits 330 = .ok (.iload_n 1, 1) := by decide +kernel
theorem dC_Fie_fits_331 : decode cC_Fie_fits 331 = .ok (.ldc 22, 2) := by decide +kernel
theorem dC_Fie_fits_333 : decode cC_Fie_fits 333 = .ok (.ldc 23, 2) := by decide +kernel
theorem dC_Fie_fits_335 : decode cC_Fie_fits 335 = .ok (.iconst (2), 1) := by decide +kernel
theorem dC_Fie_fits_336 : decode cC_Fie_fits 336 = .ok (.invokestatic 17, 3) := by decide +kernel
theorem dC_Fie_fits_339 : decode cC_Fie_fits 339 = .ok (.ireturn, 1) := by decide +kernel
theorem dC_Fie_fits_340 : decode cC_Fie_fits 340 = .ok (.iload_n 1, 1) := by decide +kernel
theorem dC_Fie_fits_341 : decode cC_Fie_fits 341 = .ok (.sipush (-2048), 3) := by decide +kernel
theorem dC_Fie_fits_344 : decode cC_Fie_fits 344 = .ok (.sipush (2046), 3) := by decide +kernel
theorem dC_Fie_fits_347 : decode cC_Fie_fits 347 = .ok (.iconst (2), 1) := by decide +kernel
theorem dC_Fie_fits_348 : decode cC_Fie_fits 348 = .ok (.invokestatic 17, 3) := by decide +kernel
theorem dC_Fie_fits_351 : decode cC_Fie_fits 351 = .ok (.ireturn, 1) := by decide +kernel
theorem dC_Fie_fits_352 : decode cC_Fie_fits 352 = .ok (.iload_n 1, 1) := by decide +kernel
theorem dC_Fie_fits_353 : decode cC_Fie_fits 353 = .ok (.sipush (-256), 3) := by decide +kernel
theorem dC_Fie_fits_356 : decode cC_Fie_fits 356 = .ok (.sipush (254), 3) := by decide +kernel
theorem dC_Fie_fits_359 : decode cC_Fie_fits 359 = .ok (.iconst (2), 1) := by decide +kernel
theorem dC_Fie_fits_360 : decode cC_Fie_fits 360 = .ok (.invokestatic 17, 3) := by decide +kernel
theorem dC_Fie_fits_363 : decode cC_Fie_fits 363 = .ok (.ireturn, 1) := by decide +kernel
theorem dC_Fie_fits_364 : decode cC_Fie_fits 364 = .ok (.iload_n 1, 1) := by decide +kernel
theorem dC_Fie_fits_365 : decode cC_Fie_fits 365 = .ok (.bipush (-32), 2) := by decide +kernel
theorem dC_Fie_fits_367 : decode cC_Fie_fits 367 = .ok (.bipush (31), 2) := by decide +kernel
theorem dC_Fie_fits_369 : decode cC_Fie_fits 369 = .ok (.iconst (1), 1) := by decide +kernel
theorem dC_Fie_fits_370 : decode cC_Fie_fits 370 = .ok (.invokestatic 17, 3) := by decide +kernel
theorem dC_Fie_fits_373 : decode cC_Fie_fits 373 = .ok (.ireturn, 1) := by decide +kernel
theorem dC_Fie_fits_374 : decode cC_Fie_fits 374 = .ok (.iload_n 1, 1) := by decide +kernel
theorem dC_Fie_fits_375 : decode cC_Fie_fits 375 = .ok (.bipush (-32), 2) := by decide +kernel
theorem dC_Fie_fits_377 : decode cC_Fie_fits 377 = .ok (.bipush (31), 2) := by decide +kernel
theorem dC_Fie_fits_379 : decode cC_Fie_fits 379 = .ok (.iconst (1), 1) := by decide +kernel
theorem dC_Fie_fits_380 : decode cC_Fie_fits 380 = .ok (.invokestatic 17, 3) := by decide +kernel
theorem dC_Fie_fits_383 : decode cC_Fie_fits 383 = .ok (.ifCond .eq (11), 3) := by decide +kernel
theorem dC_Fie_fits_386 : decode cC_Fie_fits 386 = .ok (.iload_n 1, 1) := by decide +kernel
theorem dC_Fie_fits_387 : decode cC_Fie_fits 387 = .ok (.ifCond .eq (7), 3) := by decide +kernel
theorem dC_Fie_fits_390 : decode cC_Fie_fits 390 = .ok (.iconst (1), 1) := by decide +kernel
theorem dC_Fie_fits_391 : decode cC_Fie_fits 391 = .ok (.goto (4), 3) := by decide +kernel
theorem dC_Fie_fits_394 : decode cC_Fie_fits 394 = .ok (.iconst (0), 1) := by decide +kernel
theorem dC_Fie_fits_395 : decode cC_Fie_fits 395 = .ok (.ireturn, 1) := by decide +kernel
theorem dC_Fie_fits_396 : decode cC_Fie_fits 396 = .ok (.iload_n 1, 1) := by decide +kernel
theorem dC_Fie_fits_397 : decode cC_Fie_fits 397 = .ok (.iconst (4), 1) := by decide +kernel
theorem dC_Fie_fits_398 : decode cC_Fie_fits 398 = .ok (.sipush (1020), 3) := by decide +kernel
theorem dC_Fie_fits_401 : decode cC_Fie_fits 401 = .ok (.iconst (4), 1) := by decide +kernel
theorem dC_Fie_fits_402 : decode cC_Fie_fits 402 = .ok (.invokestatic 17, 3) := by decide +kernel
theorem dC_Fie_fits_405 : decode cC_Fie_fits 405 = .ok (.ireturn, 1) := by decide +kernel
theorem dC_Fie_fits_406 : decode cC_Fie_fits 406 = .ok (.iload_n 1, 1) := by decide +kernel
theorem dC_Fie_fits_407 : decode cC_Fie_fits 407 = .ok (.iconst (0), 1) := by decide +kernel
theorem dC_Fie_fits_408 : decode cC_Fie_fits 408 = .ok (.bipush (124), 2) := by decide +kernel
theorem dC_Fie_fits_410 : decode cC_Fie_fits 410 = .ok (.iconst (4), 1) := by decide +kernel
theorem dC_Fie_fits_411 : decode cC_Fie_fits 411 = .ok (.invokestatic 17, 3) := by decide +kernel
theorem dC_Fie_fits_414 : decode cC_Fie_fits 414 = .ok (.ireturn, 1) := by decide +kernel
theorem dC_Fie_fits_415 : decode cC_Fie_fits 415 = .ok (.iload_n 1, 1) := by decide +kernel
theorem dC_Fie_fits_416 : decode cC_Fie_fits 416 = .ok (.sipush (-512), 3) := by decide +kernel
theorem dC_Fie_fits_419 : decode cC_Fie_fits 419 = .ok (.sipush (496), 3) := by decide +kernel
theorem dC_Fie_fits_422 : decode cC_Fie_fits 422 = .ok (.bipush (16), 2) := by decide +kernel
theorem dC_Fie_fits_424 : decode cC_Fie_fits 424 = .ok (.invokestatic 17, 3) := by decide +kernel
theorem dC_Fie_fits_427 : decode cC_Fie_fits 427 = .ok (.ifCond .eq (11), 3) := by decide +kernel
theorem dC_Fie_fits_430 : decode cC_Fie_fits 430 = .ok (.iload_n 1, 1) := by decide +kernel
theorem dC_Fie_fits_431 : decode cC_Fie_fits 431 = .ok (.ifCond .eq (7), 3) := by decide +kernel
theorem dC_Fie_fits_434 : decode cC_Fie_fits 434 = .ok (.iconst (1), 1) := by decide +kernel
theorem dC_Fie_fits_435 : decode cC_Fie_fits 435 = .ok (.goto (4), 3) := by decide +kernel
theorem dC_Fie_fits_438 : decode cC_Fie_fits 438 = .ok (.iconst (0), 1) := by decide +kernel
theorem dC_Fie_fits_439 : decode cC_Fie_fits 439 = .ok (.ireturn, 1) := by decide +kernel
theorem dC_Fie_fits_440 : decode cC_Fie_fits 440 = .ok (.iload_n 1, 1) := by decide +kernel
theorem dC_Fie_fits_441 : decode cC_Fie_fits 441 = .ok (.iconst (0), 1) := by decide +kernel
theorem dC_Fie_fits_442 : decode cC_Fie_fits 442 = .ok (.sipush (252), 3) := by decide +kernel
theorem dC_Fie_fits_445 : decode cC_Fie_fits 445 = .ok (.iconst (4), 1) := by decide +kernel
theorem dC_Fie_fits_446 : decode cC_Fie_fits 446 = .ok (.invokestatic 17, 3) := by decide +kernel
theorem dC_Fie_fits_449 : decode cC_Fie_fits 449 = .ok (.ireturn, 1) := by decide +kernel
theorem dC_Fie_fits_450 : decode cC_Fie_fits 450 = .ok (.iconst (1), 1) := by decide +kernel
theorem dC_Fie_fits_451 : decode cC_Fie_fits 451 = .ok (.ireturn, 1) := by decide +kernel
abbrev cC_Fie_scatterShort : ByteArray := prog_3_method_9_code
def yC_Fie_scatterShort : MethodName := ⟨"LineAssembler$Fields", "scatterShort", "(II)I"⟩
abbrev rm_Fie_scatterShort : Room := { frames := 1, cells := 0, slots := 0, locals := 23 }
theorem dC_Fie_scatterShort_0 : decode cC_Fie_scatterShort 0 = .ok (.iload_n 0, 1) := by decide +kernel
theorem dC_Fie_scatterShort_1 : decode cC_Fie_scatterShort 1 = .ok (.lookupswitch (384) #[(52, 112), (54, 175), (66, 340), (72, 108), (74, 265), (76, 220), (78, 91), (83, 246), (85, 91), (119, 148)], 91) := by decide +kernel
theorem dC_Fie_scatterShort_92 : decode cC_Fie_scatterShort 92 = .ok (.iload_n 1, 1) := by decide +kernel
theorem dC_Fie_scatterShort_93 : decode cC_Fie_scatterShort 93 = .ok (.iconst (5), 1) := by decide +kernel
theorem dC_Fie_scatterShort_94 : decode cC_Fie_scatterShort 94 = .ok (.iconst (1), 1) := by decide +kernel
theorem dC_Fie_scatterShort_95 : decode cC_Fie_scatterShort 95 = .ok (.bipush (12), 2) := by decide +kernel
theorem dC_Fie_scatterShort_97 : decode cC_Fie_scatterShort 97 = .ok (.invokestatic 24, 3) := by decide +kernel
theorem dC_Fie_scatterShort_100 : decode cC_Fie_scatterShort 100 = .ok (.iload_n 1, 1) := by decide +kernel
theorem dC_Fie_scatterShort_101 : decode cC_Fie_scatterShort 101 = .ok (.iconst (0), 1) := by decide +kernel
theorem dC_Fie_scatterShort_102 : decode cC_Fie_scatterShort 102 = .ok (.iconst (5), 1) := by decide +kernel
theorem dC_Fie_scatterShort_103 : decode cC_Fie_scatterShort 103 = .ok (.iconst (2), 1) := by decide +kernel
theorem dC_Fie_scatterShort_104 : decode cC_Fie_scatterShort 104 = .ok (.invokestatic 24, 3) := by decide +kernel
theorem dC_Fie_scatterShort_107 : decode cC_Fie_scatterShort 107 = .ok (.ior, 1) := by decide +kernel
theorem dC_Fie_scatterShort_108 : decode cC_Fie_scatterShort 108 = .ok (.ireturn, 1) := by decide +kernel
theorem dC_Fie_scatterShort_109 : decode cC_Fie_scatterShort 109 = .ok (.iload_n 1, 1) := by decide +kernel
theorem dC_Fie_scatterShort_110 : decode cC_Fie_scatterShort 110 = .ok (.iconst (2), 1) := by decide +kernel
theorem dC_Fie_scatterShort_111 : decode cC_Fie_scatterShort 111 = .ok (.ishl, 1) := by decide +kernel
theorem dC_Fie_scatterShort_112 : decode cC_Fie_scatterShort 112 = .ok (.ireturn, 1) := by decide +kernel
theorem dC_Fie_scatterShort_113 : decode cC_Fie_scatterShort 113 = .ok (.iload_n 1, 1) := by decide +kernel
theorem dC_Fie_scatterShort_114 : decode cC_Fie_scatterShort 114 = .ok (.iconst (4), 1) := by decide +kernel
theorem dC_Fie_scatterShort_115 : decode cC_Fie_scatterShort 115 = .ok (.iconst (2), 1) := by decide +kernel
theorem dC_Fie_scatterShort_116 : decode cC_Fie_scatterShort 116 = .ok (.bipush (11), 2) := by decide +kernel
theorem dC_Fie_scatterShort_118 : decode cC_Fie_scatterShort 118 = .ok (.invokestatic 24, 3) := by decide +kernel
theorem dC_Fie_scatterShort_121 : decode cC_Fie_scatterShort 121 = .ok (.iload_n 1, 1) := by decide +kernel
theorem dC_Fie_scatterShort_122 : decode cC_Fie_scatterShort 122 = .ok (.bipush (6), 2) := by decide +kernel
theorem dC_Fie_scatterShort_124 : decode cC_Fie_scatterShort 124 = .ok (.iconst (4), 1) := by decide +kernel
theorem dC_Fie_scatterShort_125 : decode cC_Fie_scatterShort 125 = .ok (.bipush (7), 2) := by decide +kernel
theorem dC_Fie_scatterShort_127 : decode cC_Fie_scatterShort 127 = .ok (.invokestatic 24, 3) := by decide +kernel
theorem dC_Fie_scatterShort_130 : decode cC_Fie_scatterShort 130 = .ok (.ior, 1) := by decide +kernel
theorem dC_Fie_scatterShort_131 : decode cC_Fie_scatterShort 131 = .ok (.iload_n 1, 1) := by decide +kernel
theorem dC_Fie_scatterShort_132 : decode cC_Fie_scatterShort 132 = .ok (.iconst (2), 1) := by decide +kernel
theorem dC_Fie_scatterShort_133 : decode cC_Fie_scatterShort 133 = .ok (.iconst (1), 1) := by decide +kernel
theorem dC_Fie_scatterShort_134 : decode cC_Fie_scatterShort 134 = .ok (.bipush (6), 2) := by decide +kernel
theorem dC_Fie_scatterShort_136 : decode cC_Fie_scatterShort 136 = .ok (.invokestatic 24, 3) := by decide +kernel
theorem dC_Fie_scatterShort_139 : decode cC_Fie_scatterShort 139 = .ok (.ior, 1) := by decide +kernel
theorem dC_Fie_scatterShort_140 : decode cC_Fie_scatterShort 140 = .ok (.iload_n 1, 1) := by decide +kernel
theorem dC_Fie_scatterShort_141 : decode cC_Fie_scatterShort 141 = .ok (.iconst (3), 1) := by decide +kernel
theorem dC_Fie_scatterShort_142 : decode cC_Fie_scatterShort 142 = .ok (.iconst (1), 1) := by decide +kernel
theorem dC_Fie_scatterShort_143 : decode cC_Fie_scatterShort 143 = .ok (.iconst (5), 1) := by decide +kernel
theorem dC_Fie_scatterShort_144 : decode cC_Fie_scatterShort 144 = .ok (.invokestatic 24, 3) := by decide +kernel
theorem dC_Fie_scatterShort_147 : decode cC_Fie_scatterShort 147 = .ok (.ior, 1) := by decide +kernel
theorem dC_Fie_scatterShort_148 : decode cC_Fie_scatterShort 148 = .ok (.ireturn, 1) := by decide +kernel
theorem dC_Fie_scatterShort_149 : decode cC_Fie_scatterShort 149 = .ok (.iload_n 1, 1) := by decide +kernel
theorem dC_Fie_scatterShort_150 : decode cC_Fie_scatterShort 150 = .ok (.iconst (3), 1) := by decide +kernel
theorem dC_Fie_scatterShort_151 : decode cC_Fie_scatterShort 151 = .ok (.iconst (3), 1) := by decide +kernel
theorem dC_Fie_scatterShort_152 : decode cC_Fie_scatterShort 152 = .ok (.bipush (10), 2) := by decide +kernel
theorem dC_Fie_scatterShort_154 : decode cC_Fie_scatterShort 154 = .ok (.invokestatic 24, 3) := by decide +kernel
theorem dC_Fie_scatterShort_157 : decode cC_Fie_scatterShort 157 = .ok (.iload_n 1, 1) := by decide +kernel
theorem dC_Fie_scatterShort_158 : decode cC_Fie_scatterShort 158 = .ok (.iconst (2), 1) := by decide +kernel
theorem dC_Fie_scatterShort_159 : decode cC_Fie_scatterShort 159 = .ok (.iconst (1), 1) := by decide +kernel
theorem dC_Fie_scatterShort_160 : decode cC_Fie_scatterShort 160 = .ok (.bipush (6), 2) := by decide +kernel
theorem dC_Fie_scatterShort_162 : decode cC_Fie_scatterShort 162 = .ok (.invokestatic 24, 3) := by decide +kernel
theorem dC_Fie_scatterShort_165 : decode cC_Fie_scatterShort 165 = .ok (.ior, 1) := by decide +kernel
theorem dC_Fie_scatterShort_166 : decode cC_Fie_scatterShort 166 = .ok (.iload_n 1, 1) := by decide +kernel
theorem dC_Fie_scatterShort_167 : decode cC_Fie_scatterShort 167 = .ok (.bipush (6), 2) := by decide +kernel
theorem dC_Fie_scatterShort_169 : decode cC_Fie_scatterShort 169 = .ok (.iconst (1), 1) := by decide +kernel
theorem dC_Fie_scatterShort_170 : decode cC_Fie_scatterShort 170 = .ok (.iconst (5), 1) := by decide +kernel
theorem dC_Fie_scatterShort_171 : decode cC_Fie_scatterShort 171 = .ok (.invokestatic 24, 3) := by decide +kernel
theorem dC_Fie_scatterShort_174 : decode cC_Fie_scatterShort 174 = .ok (.ior, 1) := by decide +kernel
theorem dC_Fie_scatterShort_175 : decode cC_Fie_scatterShort 175 = .ok (.ireturn, 1) := by decide +kernel
theorem dC_Fie_scatterShort_176 : decode cC_Fie_scatterShort 176 = .ok (.iload_n 1, 1) := by decide +kernel
theorem dC_Fie_scatterShort_177 : decode cC_Fie_scatterShort 177 = .ok (.bipush (9), 2) := by decide +kernel
theorem dC_Fie_scatterShort_179 : decode cC_Fie_scatterShort 179 = .ok (.iconst (1), 1) := by decide +kernel
theorem dC_Fie_scatterShort_180 : decode cC_Fie_scatterShort 180 = .ok (.bipush (12), 2) := by decide +kernel
theorem dC_Fie_scatterShort_182 : decode cC_Fie_scatterShort 182 = .ok (.invokestatic 24, 3) := by decide +kernel
theorem dC_Fie_scatterShort_185 : decode cC_Fie_scatterShort 185 = .ok (.iload_n 1, 1) := by decide +kernel
theorem dC_Fie_scatterShort_186 : decode cC_Fie_scatterShort 186 = .ok (.iconst (4), 1) := by decide +kernel
theorem dC_Fie_scatterShort_187 : decode cC_Fie_scatterShort 187 = .ok (.iconst (1), 1) := by decide +kernel
theorem dC_Fie_scatterShort_188 : decode cC_Fie_scatterShort 188 = .ok (.bipush (6), 2) := by decide +kernel
theorem dC_Fie_scatterShort_190 : decode cC_Fie_scatterShort 190 = .ok (.invokestatic 24, 3) := by decide +kernel
theorem dC_Fie_scatterShort_193 : decode cC_Fie_scatterShort 193 = .ok (.ior, 1) := by decide +kernel
theorem dC_Fie_scatterShort_194 : decode cC_Fie_scatterShort 194 = .ok (.iload_n 1, 1) := by decide +kernel
theorem dC_Fie_scatterShort_195 : decode cC_Fie_scatterShort 195 = .ok (.bipush (6), 2) := by decide +kernel
theorem dC_Fie_scatterShort_197 : decode cC_Fie_scatterShort 197 = .ok (.iconst (1), 1) := by decide +kernel
theorem dC_Fie_scatterShort_198 : decode cC_Fie_scatterShort 198 = .ok (.iconst (5), 1) := by decide +kernel
theorem dC_Fie_scatterShort_199 : decode cC_Fie_scatterShort 199 = .ok (.invokestatic 24, 3) := by decide +kernel
theorem dC_Fie_scatterShort_202 : decode cC_Fie_scatterShort 202 = .ok (.ior, 1) := by decide +kernel
theorem dC_Fie_scatterShort_203 : decode cC_Fie_scatterShort 203 = .ok (.iload_n 1, 1) := by decide +kernel
theorem dC_Fie_scatterShort_204 : decode cC_Fie_scatterShort 204 = .ok (.bipush (7), 2) := by decide +kernel
theorem dC_Fie_scatterShort_206 : decode cC_Fie_scatterShort 206 = .ok (.iconst (2), 1) := by decide +kernel
theorem dC_Fie_scatterShort_207 : decode cC_Fie_scatterShort 207 = .ok (.iconst (3), 1) := by decide +kernel
theorem dC_Fie_scatterShort_208 : decode cC_Fie_scatterShort 208 = .ok (.invokestatic 24, 3) := by decide +kernel
theorem dC_Fie_scatterShort_211 : decode cC_Fie_scatterShort 211 = .ok (.ior, 1) := by decide +kernel
theorem dC_Fie_scatterShort_212 : decode cC_Fie_scatterShort 212 = .ok (.iload_n 1, 1) := by decide +kernel
theorem dC_Fie_scatterShort_213 : decode cC_Fie_scatterShort 213 = .ok (.iconst (5), 1) := by decide +kernel
theorem dC_Fie_scatterShort_214 : decode cC_Fie_scatterShort 214 = .ok (.iconst (1), 1) := by decide +kernel
theorem dC_Fie_scatterShort_215 : decode cC_Fie_scatterShort 215 = .ok (.iconst (2), 1) := by decide +kernel
theorem dC_Fie_scatterShort_216 : decode cC_Fie_scatterShort 216 = .ok (.invokestatic 24, 3) := by decide +kernel
theorem dC_Fie_scatterShort_219 : decode cC_Fie_scatterShort 219 = .ok (.ior, 1) := by decide +kernel
theorem dC_Fie_scatterShort_220 : decode cC_Fie_scatterShort 220 = .ok (.ireturn, 1) := by decide +kernel
theorem dC_Fie_scatterShort_221 : decode cC_Fie_scatterShort 221 = .ok (.iload_n 1, 1) := by decide +kernel
theorem dC_Fie_scatterShort_222 : decode cC_Fie_scatterShort 222 = .ok (.iconst (5), 1) := by decide +kernel
theorem dC_Fie_scatterShort_223 : decode cC_Fie_scatterShort 223 = .ok (.iconst (1), 1) := by decide +kernel
theorem dC_Fie_scatterShort_224 : decode cC_Fie_scatterShort 224 = .ok (.bipush (12), 2) := by decide +kernel
theorem dC_Fie_scatterShort_226 : decode cC_Fie_scatterShort 226 = .ok (.invokestatic 24, 3) := by decide +kernel
theorem dC_Fie_scatterShort_229 : decode cC_Fie_scatterShort 229 = .ok (.iload_n 1, 1) := by decide +kernel
theorem dC_Fie_scatterShort_230 : decode cC_Fie_scatterShort 230 = .ok (.iconst (2), 1) := by decide +kernel
theorem dC_Fie_scatterShort_231 : decode cC_Fie_scatterShort 231 = .ok (.iconst (3), 1) := by decide +kernel
theorem dC_Fie_scatterShort_232 : decode cC_Fie_scatterShort 232 = .ok (.iconst (4), 1) := by decide +kernel
theorem dC_Fie_scatterShort_233 : decode cC_Fie_scatterShort 233 = .ok (.invokestatic 24, 3) := by decide +kernel
theorem dC_Fie_scatterShort_236 : decode cC_Fie_scatterShort 236 = .ok (.ior, 1) := by decide +kernel
theorem dC_Fie_scatterShort_237 : decode cC_Fie_scatterShort 237 = .ok (.iload_n 1, 1) := by decide +kernel
theorem dC_Fie_scatterShort_238 : decode cC_Fie_scatterShort 238 = .ok (.bipush (6), 2) := by decide +kernel
theorem dC_Fie_scatterShort_240 : decode cC_Fie_scatterShort 240 = .ok (.iconst (2), 1) := by decide +kernel
theorem dC_Fie_scatterShort_241 : decode cC_Fie_scatterShort 241 = .ok (.iconst (2), 1) := by decide +kernel
theorem dC_Fie_scatterShort_242 : decode cC_Fie_scatterShort 242 = .ok (.invokestatic 24, 3) := by decide +kernel
theorem dC_Fie_scatterShort_245 : decode cC_Fie_scatterShort 245 = .ok (.ior, 1) := by decide +kernel
theorem dC_Fie_scatterShort_246 : decode cC_Fie_scatterShort 246 = .ok (.ireturn, 1) := by decide +kernel
theorem dC_Fie_scatterShort_247 : decode cC_Fie_scatterShort 247 = .ok (.iload_n 1, 1) := by decide +kernel
theorem dC_Fie_scatterShort_248 : decode cC_Fie_scatterShort 248 = .ok (.iconst (2), 1) := by decide +kernel
theorem dC_Fie_scatterShort_249 : decode cC_Fie_scatterShort 249 = .ok (.iconst (4), 1) := by decide +kernel
theorem dC_Fie_scatterShort_250 : decode cC_Fie_scatterShort 250 = .ok (.bipush (9), 2) := by decide +kernel
theorem dC_Fie_scatterShort_252 : decode cC_Fie_scatterShort 252 = .ok (.invokestatic 24, 3) := by decide +kernel
theorem dC_Fie_scatterShort_255 : decode cC_Fie_scatterShort 255 = .ok (.iload_n 1, 1) := by decide +kernel
theorem dC_Fie_scatterShort_256 : decode cC_Fie_scatterShort 256 = .ok (.bipush (6), 2) := by decide +kernel
theorem dC_Fie_scatterShort_258 : decode cC_Fie_scatterShort 258 = .ok (.iconst (2), 1) := by decide +kernel
theorem dC_Fie_scatterShort_259 : decode cC_Fie_scatterShort 259 = .ok (.bipush (7), 2) := by decide +kernel
theorem dC_Fie_scatterShort_261 : decode cC_Fie_scatterShort 261 = .ok (.invokestatic 24, 3) := by decide +kernel
theorem dC_Fie_scatterShort_264 : decode cC_Fie_scatterShort 264 = .ok (.ior, 1) := by decide +kernel
theorem dC_Fie_scatterShort_265 : decode cC_Fie_scatterShort 265 = .ok (.ireturn, 1) := by decide +kernel
theorem dC_Fie_scatterShort_266 : decode cC_Fie_scatterShort 266 = .ok (.iload_n 1, 1) := by decide +kernel
theorem dC_Fie_scatterShort_267 : decode cC_Fie_scatterShort 267 = .ok (.bipush (11), 2) := by decide +kernel
theorem dC_Fie_scatterShort_269 : decode cC_Fie_scatterShort 269 = .ok (.iconst (1), 1) := by decide +kernel
theorem dC_Fie_scatterShort_270 : decode cC_Fie_scatterShort 270 = .ok (.bipush (12), 2) := by decide +kernel
theorem dC_Fie_scatterShort_272 : decode cC_Fie_scatterShort 272 = .ok (.invokestatic 24, 3) := by decide +kernel
theorem dC_Fie_scatterShort_275 : decode cC_Fie_scatterShort 275 = .ok (.iload_n 1, 1) := by decide +kernel
theorem dC_Fie_scatterShort_276 : decode cC_Fie_scatterShort 276 = .ok (.iconst (4), 1) := by decide +kernel
theorem dC_Fie_scatterShort_277 : decode cC_Fie_scatterShort 277 = .ok (.iconst (1), 1) := by decide +kernel
theorem dC_Fie_scatterShort_278 : decode cC_Fie_scatterShort 278 = .ok (.bipush (11), 2) := by decide +kernel
theorem dC_Fie_scatterShort_280 : decode cC_Fie_scatterShort 280 = .ok (.invokestatic 24, 3) := by decide +kernel
theorem dC_Fie_scatterShort_283 : decode cC_Fie_scatterShort 283 = .ok (.ior, 1) := by decide +kernel
theorem dC_Fie_scatterShort_284 : decode cC_Fie_scatterShort 284 = .ok (.iload_n 1, 1) := by decide +kernel
theorem dC_Fie_scatterShort_285 : decode cC_Fie_scatterShort 285 = .ok (.bipush (8), 2) := by decide +kernel
theorem dC_Fie_scatterShort_287 : decode cC_Fie_scatterShort 287 = .ok (.iconst (2), 1) := by decide +kernel
theorem dC_Fie_scatterShort_288 : decode cC_Fie_scatterShort 288 = .ok (.bipush (9), 2) := by decide +kernel
theorem dC_Fie_scatterShort_290 : decode cC_Fie_scatterShort 290 = .ok (.invokestatic 24, 3) := by decide +kernel
theorem dC_Fie_scatterShort_293 : decode cC_Fie_scatterShort 293 = .ok (.ior, 1) := by decide +kernel
theorem dC_Fie_scatterShort_294 : decode cC_Fie_scatterShort 294 = .ok (.iload_n 1, 1) := by decide +kernel
theorem dC_Fie_scatterShort_295 : decode cC_Fie_scatterShort 295 = .ok (.bipush (10), 2) := by decide +kernel
theorem dC_Fie_scatterShort_297 : decode cC_Fie_scatterShort 297 = .ok (.iconst (1), 1) := by decide +kernel
theorem dC_Fie_scatterShort_298 : decode cC_Fie_scatterShort 298 = .ok (.bipush (8), 2) := by decide +kernel
theorem dC_Fie_scatterShort_300 : decode cC_Fie_scatterShort 300 = .ok (.invokestatic 24, 3) := by decide +kernel
theorem dC_Fie_scatterShort_303 : decode cC_Fie_scatterShort 303 = .ok (.ior, 1) := by decide +kernel
theorem dC_Fie_scatterShort_304 : decode cC_Fie_scatterShort 304 = .ok (.iload_n 1, 1) := by decide +kernel
theorem dC_Fie_scatterShort_305 : decode cC_Fie_scatterShort 305 = .ok (.bipush (6), 2) := by decide +kernel
theorem dC_Fie_scatterShort_307 : decode cC_Fie_scatterShort 307 = .ok (.iconst (1), 1) := by decide +kernel
theorem dC_Fie_scatterShort_308 : decode cC_Fie_scatterShort 308 = .ok (.bipush (7), 2) := by decide +kernel
theorem dC_Fie_scatterShort_310 : decode cC_Fie_scatterShort 310 = .ok (.invokestatic 24, 3) := by decide +kernel
theorem dC_Fie_scatterShort_313 : decode cC_Fie_scatterShort 313 = .ok (.ior, 1) := by decide +kernel
theorem dC_Fie_scatterShort_314 : decode cC_Fie_scatterShort 314 = .ok (.iload_n 1, 1) := by decide +kernel
theorem dC_Fie_scatterShort_315 : decode cC_Fie_scatterShort 315 = .ok (.bipush (7), 2) := by decide +kernel
theorem dC_Fie_scatterShort_317 : decode cC_Fie_scatterShort 317 = .ok (.iconst (1), 1) := by decide +kernel
theorem dC_Fie_scatterShort_318 : decode cC_Fie_scatterShort 318 = .ok (.bipush (6), 2) := by decide +kernel
theorem dC_Fie_scatterShort_320 : decode cC_Fie_scatterShort 320 = .ok (.invokestatic 24, 3) := by decide +kernel
theorem dC_Fie_scatterShort_323 : decode cC_Fie_scatterShort 323 = .ok (.ior, 1) := by decide +kernel
theorem dC_Fie_scatterShort_324 : decode cC_Fie_scatterShort 324 = .ok (.iload_n 1, 1) := by decide +kernel
theorem dC_Fie_scatterShort_325 : decode cC_Fie_scatterShort 325 = .ok (.iconst (1), 1) := by decide +kernel
theorem dC_Fie_scatterShort_326 : decode cC_Fie_scatterShort 326 = .ok (.iconst (3), 1) := by decide +kernel
theorem dC_Fie_scatterShort_327 : decode cC_Fie_scatterShort 327 = .ok (.iconst (3), 1) := by decide +kernel
theorem dC_Fie_scatterShort_328 : decode cC_Fie_scatterShort 328 = .ok (.invokestatic 24, 3) := by decide +kernel
theorem dC_Fie_scatterShort_331 : decode cC_Fie_scatterShort 331 = .ok (.ior, 1) := by decide +kernel
theorem dC_Fie_scatterShort_332 : decode cC_Fie_scatterShort 332 = .ok (.iload_n 1, 1) := by decide +kernel
theorem dC_Fie_scatterShort_333 : decode cC_Fie_scatterShort 333 = .ok (.iconst (5), 1) := by decide +kernel
theorem dC_Fie_scatterShort_334 : decode cC_Fie_scatterShort 334 = .ok (.iconst (1), 1) := by decide +kernel
theorem dC_Fie_scatterShort_335 : decode cC_Fie_scatterShort 335 = .ok (.iconst (2), 1) := by decide +kernel
theorem dC_Fie_scatterShort_336 : decode cC_Fie_scatterShort 336 = .ok (.invokestatic 24, 3) := by decide +kernel
theorem dC_Fie_scatterShort_339 : decode cC_Fie_scatterShort 339 = .ok (.ior, 1) := by decide +kernel
theorem dC_Fie_scatterShort_340 : decode cC_Fie_scatterShort 340 = .ok (.ireturn, 1) := by decide +kernel
theorem dC_Fie_scatterShort_341 : decode cC_Fie_scatterShort 341 = .ok (.iload_n 1, 1) := by decide +kernel
theorem dC_Fie_scatterShort_342 : decode cC_Fie_scatterShort 342 = .ok (.bipush (8), 2) := by decide +kernel
theorem dC_Fie_scatterShort_344 : decode cC_Fie_scatterShort 344 = .ok (.iconst (1), 1) := by decide +kernel
theorem dC_Fie_scatterShort_345 : decode cC_Fie_scatterShort 345 = .ok (.bipush (12), 2) := by decide +kernel
theorem dC_Fie_scatterShort_347 : decode cC_Fie_scatterShort 347 = .ok (.invokestatic 24, 3) := by decide +kernel
theorem dC_Fie_scatterShort_350 : decode cC_Fie_scatterShort 350 = .ok (.iload_n 1, 1) := by decide +kernel
theorem dC_Fie_scatterShort_351 : decode cC_Fie_scatterShort 351 = .ok (.iconst (3), 1) := by decide +kernel
theorem dC_Fie_scatterShort_352 : decode cC_Fie_scatterShort 352 = .ok (.iconst (2), 1) := by decide +kernel
theorem dC_Fie_scatterShort_353 : decode cC_Fie_scatterShort 353 = .ok (.bipush (10), 2) := by decide +kernel
theorem dC_Fie_scatterShort_355 : decode cC_Fie_scatterShort 355 = .ok (.invokestatic 24, 3) := by decide +kernel
theorem dC_Fie_scatterShort_358 : decode cC_Fie_scatterShort 358 = .ok (.ior, 1) := by decide +kernel
theorem dC_Fie_scatterShort_359 : decode cC_Fie_scatterShort 359 = .ok (.iload_n 1, 1) := by decide +kernel
theorem dC_Fie_scatterShort_360 : decode cC_Fie_scatterShort 360 = .ok (.bipush (6), 2) := by decide +kernel
theorem dC_Fie_scatterShort_362 : decode cC_Fie_scatterShort 362 = .ok (.iconst (2), 1) := by decide +kernel
theorem dC_Fie_scatterShort_363 : decode cC_Fie_scatterShort 363 = .ok (.iconst (5), 1) := by decide +kernel
theorem dC_Fie_scatterShort_364 : decode cC_Fie_scatterShort 364 = .ok (.invokestatic 24, 3) := by decide +kernel
theorem dC_Fie_scatterShort_367 : decode cC_Fie_scatterShort 367 = .ok (.ior, 1) := by decide +kernel
theorem dC_Fie_scatterShort_368 : decode cC_Fie_scatterShort 368 = .ok (.iload_n 1, 1) := by decide +kernel
theorem dC_Fie_scatterShort_369 : decode cC_Fie_scatterShort 369 = .ok (.iconst (1), 1) := by decide +kernel
theorem dC_Fie_scatterShort_370 : decode cC_Fie_scatterShort 370 = .ok (.iconst (2), 1) := by decide +kernel
theorem dC_Fie_scatterShort_371 : decode cC_Fie_scatterShort 371 = .ok (.iconst (3), 1) := by decide +kernel
theorem dC_Fie_scatterShort_372 : decode cC_Fie_scatterShort 372 = .ok (.invokestatic 24, 3) := by decide +kernel
theorem dC_Fie_scatterShort_375 : decode cC_Fie_scatterShort 375 = .ok (.ior, 1) := by decide +kernel
theorem dC_Fie_scatterShort_376 : decode cC_Fie_scatterShort 376 = .ok (.iload_n 1, 1) := by decide +kernel
theorem dC_Fie_scatterShort_377 : decode cC_Fie_scatterShort 377 = .ok (.iconst (5), 1) := by decide +kernel
theorem dC_Fie_scatterShort_378 : decode cC_Fie_scatterShort 378 = .ok (.iconst (1), 1) := by decide +kernel
theorem dC_Fie_scatterShort_379 : decode cC_Fie_scatterShort 379 = .ok (.iconst (2), 1) := by decide +kernel
theorem dC_Fie_scatterShort_380 : decode cC_Fie_scatterShort 380 = .ok (.invokestatic 24, 3) := by decide +kernel
theorem dC_Fie_scatterShort_383 : decode cC_Fie_scatterShort 383 = .ok (.ior, 1) := by decide +kernel
theorem dC_Fie_scatterShort_384 : decode cC_Fie_scatterShort 384 = .ok (.ireturn, 1) := by decide +kernel
theorem dC_Fie_scatterShort_385 : decode cC_Fie_scatterShort 385 = .ok (.iload_n 1, 1) := by decide +kernel
theorem dC_Fie_scatterShort_386 : decode cC_Fie_scatterShort 386 = .ok (.ireturn, 1) := by decide +kernel
abbrev cC_Fie_scatter : ByteArray := prog_3_method_8_code
def yC_Fie_scatter : MethodName := ⟨"LineAssembler$Fields", "scatter", "(II)I"⟩
abbrev rm_Fie_scatter : Room := { frames := 2, cells := 0, slots := 0, locals := 44 }
theorem dC_Fie_scatter_0 : decode cC_Fie_scatter 0 = .ok (.iload_n 0, 1) := by decide +kernel
theorem dC_Fie_scatter_1 : decode cC_Fie_scatter 1 = .ok (.tableswitch (180) (104) (117) #[71, 71, 139, 180, 180, 180, 180, 76, 180, 180, 180, 180, 100, 95], 71) := by decide +kernel
theorem dC_Fie_scatter_72 : decode cC_Fie_scatter 72 = .ok (.iload_n 1, 1) := by decide +kernel
theorem dC_Fie_scatter_73 : decode cC_Fie_scatter 73 = .ok (.bipush (20), 2) := by decide +kernel
theorem dC_Fie_scatter_75 : decode cC_Fie_scatter 75 = .ok (.ishl, 1) := by decide +kernel
theorem dC_Fie_scatter_76 : decode cC_Fie_scatter 76 = .ok (.ireturn, 1) := by decide +kernel
theorem dC_Fie_scatter_77 : decode cC_Fie_scatter 77 = .ok (.iload_n 1, 1) := by decide +kernel
theorem dC_Fie_scatter_78 : decode cC_Fie_scatter 78 = .ok (.iconst (5), 1) := by decide +kernel
theorem dC_Fie_scatter_79 : decode cC_Fie_scatter 79 = .ok (.bipush (7), 2) := by decide +kernel
theorem dC_Fie_scatter_81 : decode cC_Fie_scatter 81 = .ok (.bipush (25), 2) := by decide +kernel
theorem dC_Fie_scatter_83 : decode cC_Fie_scatter 83 = .ok (.invokestatic 24, 3) := by decide +kernel
theorem dC_Fie_scatter_86 : decode cC_Fie_scatter 86 = .ok (.iload_n 1, 1) := by decide +kernel
theorem dC_Fie_scatter_87 : decode cC_Fie_scatter 87 = .ok (.iconst (0), 1) := by decide +kernel
theorem dC_Fie_scatter_88 : decode cC_Fie_scatter 88 = .ok (.iconst (5), 1) := by decide +kernel
theorem dC_Fie_scatter_89 : decode cC_Fie_scatter 89 = .ok (.bipush (7), 2) := by decide +kernel
theorem dC_Fie_scatter_91 : decode cC_Fie_scatter 91 = .ok (.invokestatic 24, 3) := by decide +kernel
theorem dC_Fie_scatter_94 : decode cC_Fie_scatter 94 = .ok (.ior, 1) := by decide +kernel
theorem dC_Fie_scatter_95 : decode cC_Fie_scatter 95 = .ok (.ireturn, 1) := by decide +kernel
theorem dC_Fie_scatter_96 : decode cC_Fie_scatter 96 = .ok (.iload_n 1, 1) := by decide +kernel
theorem dC_Fie_scatter_97 : decode cC_Fie_scatter 97 = .ok (.bipush (12), 2) := by decide +kernel
theorem dC_Fie_scatter_99 : decode cC_Fie_scatter 99 = .ok (.ishl, 1) := by decide +kernel
theorem dC_Fie_scatter_100 : decode cC_Fie_scatter 100 = .ok (.ireturn, 1) := by decide +kernel
theorem dC_Fie_scatter_101 : decode cC_Fie_scatter 101 = .ok (.iload_n 1, 1) := by decide +kernel
theorem dC_Fie_scatter_102 : decode cC_Fie_scatter 102 = .ok (.bipush (12), 2) := by decide +kernel
theorem dC_Fie_scatter_104 : decode cC_Fie_scatter 104 = .ok (.iconst (1), 1) := by decide +kernel
theorem dC_Fie_scatter_105 : decode cC_Fie_scatter 105 = .ok (.bipush (31), 2) := by decide +kernel
theorem dC_Fie_scatter_107 : decode cC_Fie_scatter 107 = .ok (.invokestatic 24, 3) := by decide +kernel
theorem dC_Fie_scatter_110 : decode cC_Fie_scatter 110 = .ok (.iload_n 1, 1) := by decide +kernel
theorem dC_Fie_scatter_111 : decode cC_Fie_scatter 111 = .ok (.iconst (5), 1) := by decide +kernel
theorem dC_Fie_scatter_112 : decode cC_Fie_scatter 112 = .ok (.bipush (6), 2) := by decide +kernel
theorem dC_Fie_scatter_114 : decode cC_Fie_scatter 114 = .ok (.bipush (25), 2) := by decide +kernel
theorem dC_Fie_scatter_116 : decode cC_Fie_scatter 116 = .ok (.invokestatic 24, 3) := by decide +kernel
theorem dC_Fie_scatter_119 : decode cC_Fie_scatter 119 = .ok (.ior, 1) := by decide +kernel
theorem dC_Fie_scatter_120 : decode cC_Fie_scatter 120 = .ok (.iload_n 1, 1) := by decide +kernel
theorem dC_Fie_scatter_121 : decode cC_Fie_scatter 121 = .ok (.iconst (1), 1) := by decide +kernel
theorem dC_Fie_scatter_122 : decode cC_Fie_scatter 122 = .ok (.iconst (4), 1) := by decide +kernel
theorem dC_Fie_scatter_123 : decode cC_Fie_scatter 123 = .ok (.bipush (8), 2) := by decide +kernel
theorem dC_Fie_scatter_125 : decode cC_Fie_scatter 125 = .ok (.invokestatic 24, 3) := by decide +kernel
theorem dC_Fie_scatter_128 : decode cC_Fie_scatter 128 = .ok (.ior, 1) := by decide +kernel
theorem dC_Fie_scatter_129 : decode cC_Fie_scatter 129 = .ok (.iload_n 1, 1) := by decide +kernel
theorem dC_Fie_scatter_130 : decode cC_Fie_scatter 130 = .ok (.bipush (11), 2) := by decide +kernel
theorem dC_Fie_scatter_132 : decode cC_Fie_scatter 132 = .ok (.iconst (1), 1) := by decide +kernel
theorem dC_Fie_scatter_133 : decode cC_Fie_scatter 133 = .ok (.bipush (7), 2) := by decide +kernel
theorem dC_Fie_scatter_135 : decode cC_Fie_scatter 135 = .ok (.invokestatic 24, 3) := by decide +kernel
theorem dC_Fie_scatter_138 : decode cC_Fie_scatter 138 = .ok (.ior, 1) := by decide +kernel
theorem dC_Fie_scatter_139 : decode cC_Fie_scatter 139 = .ok (.ireturn, 1) := by decide +kernel
theorem dC_Fie_scatter_140 : decode cC_Fie_scatter 140 = .ok (.iload_n 1, 1) := by decide +kernel
theorem dC_Fie_scatter_141 : decode cC_Fie_scatter 141 = .ok (.bipush (20), 2) := by decide +kernel
theorem dC_Fie_scatter_143 : decode cC_Fie_scatter 143 = .ok (.iconst (1), 1) := by decide +kernel
theorem dC_Fie_scatter_144 : decode cC_Fie_scatter 144 = .ok (.bipush (31), 2) := by decide +kernel
theorem dC_Fie_scatter_146 : decode cC_Fie_scatter 146 = .ok (.invokestatic 24, 3) := by decide +kernel
theorem dC_Fie_scatter_149 : decode cC_Fie_scatter 149 = .ok (.iload_n 1, 1) := by decide +kernel
theorem dC_Fie_scatter_150 : decode cC_Fie_scatter 150 = .ok (.iconst (1), 1) := by decide +kernel
theorem dC_Fie_scatter_151 : decode cC_Fie_scatter 151 = .ok (.bipush (10), 2) := by decide +kernel
theorem dC_Fie_scatter_153 : decode cC_Fie_scatter 153 = .ok (.bipush (21), 2) := by decide +kernel
theorem dC_Fie_scatter_155 : decode cC_Fie_scatter 155 = .ok (.invokestatic 24, 3) := by decide +kernel
theorem dC_Fie_scatter_158 : decode cC_Fie_scatter 158 = .ok (.ior, 1) := by decide +kernel
theorem dC_Fie_scatter_159 : decode cC_Fie_scatter 159 = .ok (.iload_n 1, 1) := by decide +kernel
theorem dC_Fie_scatter_160 : decode cC_Fie_scatter 160 = .ok (.bipush (11), 2) := by decide +kernel
theorem dC_Fie_scatter_162 : decode cC_Fie_scatter 162 = .ok (.iconst (1), 1) := by decide +kernel
theorem dC_Fie_scatter_163 : decode cC_Fie_scatter 163 = .ok (.bipush (20), 2) := by decide +kernel
theorem dC_Fie_scatter_165 : decode cC_Fie_scatter 165 = .ok (.invokestatic 24, 3) := by decide +kernel
theorem dC_Fie_scatter_168 : decode cC_Fie_scatter 168 = .ok (.ior, 1) := by decide +kernel
theorem dC_Fie_scatter_169 : decode cC_Fie_scatter 169 = .ok (.iload_n 1, 1) := by decide +kernel
theorem dC_Fie_scatter_170 : decode cC_Fie_scatter 170 = .ok (.bipush (12), 2) := by decide +kernel
theorem dC_Fie_scatter_172 : decode cC_Fie_scatter 172 = .ok (.bipush (8), 2) := by decide +kernel
theorem dC_Fie_scatter_174 : decode cC_Fie_scatter 174 = .ok (.bipush (12), 2) := by decide +kernel
theorem dC_Fie_scatter_176 : decode cC_Fie_scatter 176 = .ok (.invokestatic 24, 3) := by decide +kernel
theorem dC_Fie_scatter_179 : decode cC_Fie_scatter 179 = .ok (.ior, 1) := by decide +kernel
theorem dC_Fie_scatter_180 : decode cC_Fie_scatter 180 = .ok (.ireturn, 1) := by decide +kernel
theorem dC_Fie_scatter_181 : decode cC_Fie_scatter 181 = .ok (.iload_n 0, 1) := by decide +kernel
theorem dC_Fie_scatter_182 : decode cC_Fie_scatter 182 = .ok (.iload_n 1, 1) := by decide +kernel
theorem dC_Fie_scatter_183 : decode cC_Fie_scatter 183 = .ok (.invokestatic 28, 3) := by decide +kernel
theorem dC_Fie_scatter_186 : decode cC_Fie_scatter 186 = .ok (.ireturn, 1) := by decide +kernel
abbrev cC_Lex_isDigit : ByteArray := prog_6_method_13_code
def yC_Lex_isDigit : MethodName := ⟨R_Lex, "isDigit", "(I)Z"⟩
abbrev rm_Lex_isDigit : Room := { frames := 0, cells := 0, slots := 0, locals := 0 }
theorem dC_Lex_isDigit_0 : decode cC_Lex_isDigit 0 = .ok (.iload_n 0, 1) := by decide +kernel
theorem dC_Lex_isDigit_1 : decode cC_Lex_isDigit 1 = .ok (.bipush (48), 2) := by decide +kernel
theorem dC_Lex_isDigit_3 : decode cC_Lex_isDigit 3 = .ok (.if_icmp .lt (13), 3) := by decide +kernel
theorem dC_Lex_isDigit_6 : decode cC_Lex_isDigit 6 = .ok (.iload_n 0, 1) := by decide +kernel
theorem dC_Lex_isDigit_7 : decode cC_Lex_isDigit 7 = .ok (.bipush (57), 2) := by decide +kernel
theorem dC_Lex_isDigit_9 : decode cC_Lex_isDigit 9 = .ok (.if_icmp .gt (7), 3) := by decide +kernel
theorem dC_Lex_isDigit_12 : decode cC_Lex_isDigit 12 = .ok (.iconst (1), 1) := by decide +kernel
theorem dC_Lex_isDigit_13 : decode cC_Lex_isDigit 13 = .ok (.goto (4), 3) := by decide +kernel
theorem dC_Lex_isDigit_16 : decode cC_Lex_isDigit 16 = .ok (.iconst (0), 1) := by decide +kernel
theorem dC_Lex_isDigit_17 : decode cC_Lex_isDigit 17 = .ok (.ireturn, 1) := by decide +kernel
abbrev cC_Lex_isOfName : ByteArray := prog_6_method_14_code
def yC_Lex_isOfName : MethodName := ⟨R_Lex, "isOfName", "(I)Z"⟩
abbrev rm_Lex_isOfName : Room := { frames := 1, cells := 0, slots := 0, locals := 20 }
theorem dC_Lex_isOfName_0 : decode cC_Lex_isOfName 0 = .ok (.iload_n 0, 1) := by decide +kernel
theorem dC_Lex_isOfName_1 : decode cC_Lex_isOfName 1 = .ok (.invokestatic 59, 3) := by decide +kernel
theorem dC_Lex_isOfName_4 : decode cC_Lex_isOfName 4 = .ok (.ifCond .ne (45), 3) := by decide +kernel
theorem dC_Lex_isOfName_7 : decode cC_Lex_isOfName 7 = .ok (.iload_n 0, 1) := by decide +kernel
theorem dC_Lex_isOfName_8 : decode cC_Lex_isOfName 8 = .ok (.bipush (97), 2) := by decide +kernel
theorem dC_Lex_isOfName_10 : decode cC_Lex_isOfName 10 = .ok (.if_icmp .lt (9), 3) := by decide +kernel
theorem dC_Lex_isOfName_13 : decode cC_Lex_isOfName 13 = .ok (.iload_n 0, 1) := by decide +kernel
theorem dC_Lex_isOfName_14 : decode cC_Lex_isOfName 14 = .ok (.bipush (122), 2) := by decide +kernel
theorem dC_Lex_isOfName_16 : decode cC_Lex_isOfName 16 = .ok (.if_icmp .le (33), 3) := by decide +kernel
theorem dC_Lex_isOfName_19 : decode cC_Lex_isOfName 19 = .ok (.iload_n 0, 1) := by decide +kernel
theorem dC_Lex_isOfName_20 : decode cC_Lex_isOfName 20 = .ok (.bipush (65), 2) := by decide +kernel
theorem dC_Lex_isOfName_22 : decode cC_Lex_isOfName 22 = .ok (.if_icmp .lt (9), 3) := by decide +kernel
theorem dC_Lex_isOfName_25 : decode cC_Lex_isOfName 25 = .ok (.iload_n 0, 1) := by decide +kernel
theorem dC_Lex_isOfName_26 : decode cC_Lex_isOfName 26 = .ok (.bipush (90), 2) := by decide +kernel
theorem dC_Lex_isOfName_28 : decode cC_Lex_isOfName 28 = .ok (.if_icmp .le (21), 3) := by decide +kernel
theorem dC_Lex_isOfName_31 : decode cC_Lex_isOfName 31 = .ok (.iload_n 0, 1) := by decide +kernel
theorem dC_Lex_isOfName_32 : decode cC_Lex_isOfName 32 = .ok (.bipush (95), 2) := by decide +kernel
theorem dC_Lex_isOfName_34 : decode cC_Lex_isOfName 34 = .ok (.if_icmp .eq (15), 3) := by decide +kernel
theorem dC_Lex_isOfName_37 : decode cC_Lex_isOfName 37 = .ok (.iload_n 0, 1) := by decide +kernel
theorem dC_Lex_isOfName_38 : decode cC_Lex_isOfName 38 = .ok (.bipush (46), 2) := by decide +kernel
theorem dC_Lex_isOfName_40 : decode cC_Lex_isOfName 40 = .ok (.if_icmp .eq (9), 3) := by decide +kernel
theorem dC_Lex_isOfName_43 : decode cC_Lex_isOfName 43 = .ok (.iload_n 0, 1) := by decide +kernel
theorem dC_Lex_isOfName_44 : decode cC_Lex_isOfName 44 = .ok (.bipush (36), 2) := by decide +kernel
theorem dC_Lex_isOfName_46 : decode cC_Lex_isOfName 46 = .ok (.if_icmp .ne (7), 3) := by decide +kernel
theorem dC_Lex_isOfName_49 : decode cC_Lex_isOfName 49 = .ok (.iconst (1), 1) := by decide +kernel
theorem dC_Lex_isOfName_50 : decode cC_Lex_isOfName 50 = .ok (.goto (4), 3) := by decide +kernel
theorem dC_Lex_isOfName_53 : decode cC_Lex_isOfName 53 = .ok (.iconst (0), 1) := by decide +kernel
theorem dC_Lex_isOfName_54 : decode cC_Lex_isOfName 54 = .ok (.ireturn, 1) := by decide +kernel
abbrev cC_Lex_digit : ByteArray := prog_6_method_15_code
def yC_Lex_digit : MethodName := ⟨R_Lex, "digit", "(I)I"⟩
abbrev rm_Lex_digit : Room := { frames := 1, cells := 0, slots := 0, locals := 20 }
theorem dC_Lex_digit_0 : decode cC_Lex_digit 0 = .ok (.iload_n 0, 1) := by decide +kernel
theorem dC_Lex_digit_1 : decode cC_Lex_digit 1 = .ok (.invokestatic 59, 3) := by decide +kernel
theorem dC_Lex_digit_4 : decode cC_Lex_digit 4 = .ok (.ifCond .eq (8), 3) := by decide +kernel
theorem dC_Lex_digit_7 : decode cC_Lex_digit 7 = .ok (.iload_n 0, 1) := by decide +kernel
theorem dC_Lex_digit_8 : decode cC_Lex_digit 8 = .ok (.bipush (48), 2) := by decide +kernel
theorem dC_Lex_digit_10 : decode cC_Lex_digit 10 = .ok (.isub, 1) := by decide +kernel
theorem dC_Lex_digit_11 : decode cC_Lex_digit 11 = .ok (.ireturn, 1) := by decide +kernel
theorem dC_Lex_digit_12 : decode cC_Lex_digit 12 = .ok (.iload_n 0, 1) := by decide +kernel
theorem dC_Lex_digit_13 : decode cC_Lex_digit 13 = .ok (.bipush (97), 2) := by decide +kernel
theorem dC_Lex_digit_15 : decode cC_Lex_digit 15 = .ok (.if_icmp .lt (17), 3) := by decide +kernel
theorem dC_Lex_digit_18 : decode cC_Lex_digit 18 = .ok (.iload_n 0, 1) := by decide +kernel
theorem dC_Lex_digit_19 : decode cC_Lex_digit 19 = .ok (.bipush (102), 2) := by decide +kernel
theorem dC_Lex_digit_21 : decode cC_Lex_digit 21 = .ok (.if_icmp .gt (11), 3) := by decide +kernel
theorem dC_Lex_digit_24 : decode cC_Lex_digit 24 = .ok (.iload_n 0, 1) := by decide +kernel
theorem dC_Lex_digit_25 : decode cC_Lex_digit 25 = .ok (.bipush (97), 2) := by decide +kernel
theorem dC_Lex_digit_27 : decode cC_Lex_digit 27 = .ok (.isub, 1) := by decide +kernel
theorem dC_Lex_digit_28 : decode cC_Lex_digit 28 = .ok (.bipush (10), 2) := by decide +kernel
theorem dC_Lex_digit_30 : decode cC_Lex_digit 30 = .ok (.iadd, 1) := by decide +kernel
theorem dC_Lex_digit_31 : decode cC_Lex_digit 31 = .ok (.ireturn, 1) := by decide +kernel
theorem dC_Lex_digit_32 : decode cC_Lex_digit 32 = .ok (.iload_n 0, 1) := by decide +kernel
theorem dC_Lex_digit_33 : decode cC_Lex_digit 33 = .ok (.bipush (65), 2) := by decide +kernel
theorem dC_Lex_digit_35 : decode cC_Lex_digit 35 = .ok (.if_icmp .lt (19), 3) := by decide +kernel
theorem dC_Lex_digit_38 : decode cC_Lex_digit 38 = .ok (.iload_n 0, 1) := by decide +kernel
theorem dC_Lex_digit_39 : decode cC_Lex_digit 39 = .ok (.bipush (70), 2) := by decide +kernel
theorem dC_Lex_digit_41 : decode cC_Lex_digit 41 = .ok (.if_icmp .gt (13), 3) := by decide +kernel
theorem dC_Lex_digit_44 : decode cC_Lex_digit 44 = .ok (.iload_n 0, 1) := by decide +kernel
theorem dC_Lex_digit_45 : decode cC_Lex_digit 45 = .ok (.bipush (65), 2) := by decide +kernel
theorem dC_Lex_digit_47 : decode cC_Lex_digit 47 = .ok (.isub, 1) := by decide +kernel
theorem dC_Lex_digit_48 : decode cC_Lex_digit 48 = .ok (.bipush (10), 2) := by decide +kernel
theorem dC_Lex_digit_50 : decode cC_Lex_digit 50 = .ok (.iadd, 1) := by decide +kernel
theorem dC_Lex_digit_51 : decode cC_Lex_digit 51 = .ok (.goto (5), 3) := by decide +kernel
theorem dC_Lex_digit_54 : decode cC_Lex_digit 54 = .ok (.bipush (99), 2) := by decide +kernel
theorem dC_Lex_digit_56 : decode cC_Lex_digit 56 = .ok (.ireturn, 1) := by decide +kernel
abbrev cC_Frm_level : ByteArray := prog_4_method_9_code
def yC_Frm_level : MethodName := ⟨R_Frm, "level", "(I)I"⟩
abbrev rm_Frm_level : Room := { frames := 0, cells := 0, slots := 0, locals := 0 }
theorem dC_Frm_level_0 : decode cC_Frm_level 0 = .ok (.iload_n 0, 1) := by decide +kernel
theorem dC_Frm_level_1 : decode cC_Frm_level 1 = .ok (.lookupswitch (139) #[(10, 123), (11, 123), (12, 123), (13, 123), (37, 126), (38, 133), (42, 126), (43, 129), (45, 129), (47, 126), (60, 131), (62, 131), (94, 135), (124, 137)], 123) := by decide +kernel
theorem dC_Frm_level_124 : decode cC_Frm_level 124 = .ok (.bipush (7), 2) := by decide +kernel
theorem dC_Frm_level_126 : decode cC_Frm_level 126 = .ok (.ireturn, 1) := by decide +kernel
theorem dC_Frm_level_127 : decode cC_Frm_level 127 = .ok (.bipush (6), 2) := by decide +kernel
theorem dC_Frm_level_129 : decode cC_Frm_level 129 = .ok (.ireturn, 1) := by decide +kernel
theorem dC_Frm_level_130 : decode cC_Frm_level 130 = .ok (.iconst (5), 1) := by decide +kernel
theorem dC_Frm_level_131 : decode cC_Frm_level 131 = .ok (.ireturn, 1) := by decide +kernel
theorem dC_Frm_level_132 : decode cC_Frm_level 132 = .ok (.iconst (4), 1) := by decide +kernel
theorem dC_Frm_level_133 : decode cC_Frm_level 133 = .ok (.ireturn, 1) := by decide +kernel
theorem dC_Frm_level_134 : decode cC_Frm_level 134 = .ok (.iconst (3), 1) := by decide +kernel
theorem dC_Frm_level_135 : decode cC_Frm_level 135 = .ok (.ireturn, 1) := by decide +kernel
theorem dC_Frm_level_136 : decode cC_Frm_level 136 = .ok (.iconst (2), 1) := by decide +kernel
theorem dC_Frm_level_137 : decode cC_Frm_level 137 = .ok (.ireturn, 1) := by decide +kernel
theorem dC_Frm_level_138 : decode cC_Frm_level 138 = .ok (.iconst (1), 1) := by decide +kernel
theorem dC_Frm_level_139 : decode cC_Frm_level 139 = .ok (.ireturn, 1) := by decide +kernel
theorem dC_Frm_level_140 : decode cC_Frm_level 140 = .ok (.iconst (0), 1) := by decide +kernel
theorem dC_Frm_level_141 : decode cC_Frm_level 141 = .ok (.ireturn, 1) := by decide +kernel
abbrev cC_Frm_changed : ByteArray := prog_4_method_13_code
def yC_Frm_changed : MethodName := ⟨R_Frm, "changed", "(II)I"⟩
abbrev rm_Frm_changed : Room := { frames := 0, cells := 0, slots := 0, locals := 0 }
theorem dC_Frm_changed_0 : decode cC_Frm_changed 0 = .ok (.iload_n 0, 1) := by decide +kernel
theorem dC_Frm_changed_1 : decode cC_Frm_changed 1 = .ok (.tableswitch (51) (10) (13) #[31, 51, 34, 43], 31) := by decide +kernel
theorem dC_Frm_changed_32 : decode cC_Frm_changed 32 = .ok (.iload_n 1, 1) := by decide +kernel
theorem dC_Frm_changed_33 : decode cC_Frm_changed 33 = .ok (.ineg, 1) := by decide +kernel
theorem dC_Frm_changed_34 : decode cC_Frm_changed 34 = .ok (.ireturn, 1) := by decide +kernel
theorem dC_Frm_changed_35 : decode cC_Frm_changed 35 = .ok (.iload_n 1, 1) := by decide +kernel
theorem dC_Frm_changed_36 : decode cC_Frm_changed 36 = .ok (.sipush (2048), 3) := by decide +kernel
theorem dC_Frm_changed_39 : decode cC_Frm_changed 39 = .ok (.iadd, 1) := by decide +kernel
theorem dC_Frm_changed_40 : decode cC_Frm_changed 40 = .ok (.bipush (12), 2) := by decide +kernel
theorem dC_Frm_changed_42 : decode cC_Frm_changed 42 = .ok (.iushr, 1) := by decide +kernel
theorem dC_Frm_changed_43 : decode cC_Frm_changed 43 = .ok (.ireturn, 1) := by decide +kernel
theorem dC_Frm_changed_44 : decode cC_Frm_changed 44 = .ok (.iload_n 1, 1) := by decide +kernel
theorem dC_Frm_changed_45 : decode cC_Frm_changed 45 = .ok (.bipush (20), 2) := by decide +kernel
theorem dC_Frm_changed_47 : decode cC_Frm_changed 47 = .ok (.ishl, 1) := by decide +kernel
theorem dC_Frm_changed_48 : decode cC_Frm_changed 48 = .ok (.bipush (20), 2) := by decide +kernel
theorem dC_Frm_changed_50 : decode cC_Frm_changed 50 = .ok (.ishr, 1) := by decide +kernel
theorem dC_Frm_changed_51 : decode cC_Frm_changed 51 = .ok (.ireturn, 1) := by decide +kernel
theorem dC_Frm_changed_52 : decode cC_Frm_changed 52 = .ok (.iload_n 1, 1) := by decide +kernel
theorem dC_Frm_changed_53 : decode cC_Frm_changed 53 = .ok (.iconst (-1), 1) := by decide +kernel
theorem dC_Frm_changed_54 : decode cC_Frm_changed 54 = .ok (.ixor, 1) := by decide +kernel
theorem dC_Frm_changed_55 : decode cC_Frm_changed 55 = .ok (.ireturn, 1) := by decide +kernel
abbrev cC_Asm_isOfText : ByteArray := prog_1_method_12_code
def yC_Asm_isOfText : MethodName := ⟨R_Asm, "isOfText", "(I)Z"⟩
abbrev rm_Asm_isOfText : Room := { frames := 0, cells := 0, slots := 0, locals := 0 }
theorem dC_Asm_isOfText_0 : decode cC_Asm_isOfText 0 = .ok (.iload_n 0, 1) := by decide +kernel
theorem dC_Asm_isOfText_1 : decode cC_Asm_isOfText 1 = .ok (.bipush (9), 2) := by decide +kernel
theorem dC_Asm_isOfText_3 : decode cC_Asm_isOfText 3 = .ok (.if_icmp .eq (21), 3) := by decide +kernel
theorem dC_Asm_isOfText_6 : decode cC_Asm_isOfText 6 = .ok (.iload_n 0, 1) := by decide +kernel
theorem dC_Asm_isOfText_7 : decode cC_Asm_isOfText 7 = .ok (.bipush (10), 2) := by decide +kernel
theorem dC_Asm_isOfText_9 : decode cC_Asm_isOfText 9 = .ok (.if_icmp .eq (15), 3) := by decide +kernel
theorem dC_Asm_isOfText_12 : decode cC_Asm_isOfText 12 = .ok (.iload_n 0, 1) := by decide +kernel
theorem dC_Asm_isOfText_13 : decode cC_Asm_isOfText 13 = .ok (.bipush (32), 2) := by decide +kernel
theorem dC_Asm_isOfText_15 : decode cC_Asm_isOfText 15 = .ok (.if_icmp .lt (13), 3) := by decide +kernel
theorem dC_Asm_isOfText_18 : decode cC_Asm_isOfText 18 = .ok (.iload_n 0, 1) := by decide +kernel
theorem dC_Asm_isOfText_19 : decode cC_Asm_isOfText 19 = .ok (.bipush (126), 2) := by decide +kernel
theorem dC_Asm_isOfText_21 : decode cC_Asm_isOfText 21 = .ok (.if_icmp .gt (7), 3) := by decide +kernel
theorem dC_Asm_isOfText_24 : decode cC_Asm_isOfText 24 = .ok (.iconst (1), 1) := by decide +kernel
theorem dC_Asm_isOfText_25 : decode cC_Asm_isOfText 25 = .ok (.goto (4), 3) := by decide +kernel
theorem dC_Asm_isOfText_28 : decode cC_Asm_isOfText 28 = .ok (.iconst (0), 1) := by decide +kernel
theorem dC_Asm_isOfText_29 : decode cC_Asm_isOfText 29 = .ok (.ireturn, 1) := by decide +kernel
section
variable {p : Program} {l : Launch} {e : Env} {s : State} {m : MethodId} {args : Array Value} {below : List Frame} {meth : Method} {c : Code} {D : va_G} {dA : Nat → ClassId} {z : Nat → Nat} {o b i : Nat → Nat} {A : Nat → Prop}
def C_Fie_isWithin_23 (t0 : Int32) : Option Int32 :=
  gd (isB t0) (some t0)
set_option maxHeartbeats 4000000 in
set_option maxRecDepth 100000 in
theorem bC_Fie_isWithin_23  {r : Int32} (C : CxS "LineAssembler$Fields" p s m args meth c cC_Fie_isWithin 4 (some .boolean)) (t0 : Int32) (hM : C_Fie_isWithin_23  t0 = some r) (ls : Array Slot) (hl : lv_has ls 4 []) : W p l e rm_Fie_isWithin s m args below meth c s.heap [] 0 0 (MQ below (QS (some (.int r))) args s 0 0 (fun _ => False)) (F0 m 23 ls [.int t0]) := by
  have hx := C.1
  have hb := C.2.1
  have hown := C.2.2.2.2.1
  have hT := C.2.2.2.2.2.1
  unfold C_Fie_isWithin_23 at hM
  obtain ⟨hg1, hM⟩ := gd_some hM
  obtain rfl := sm_i hM
  exact x_retSz (pc := 23) C rfl hg1 dC_Fie_isWithin_23
def C_Fie_isWithin_22  : Option Int32 :=
  C_Fie_isWithin_23  (0 : Int32)
set_option maxHeartbeats 4000000 in
set_option maxRecDepth 100000 in
theorem bC_Fie_isWithin_22  {r : Int32} (C : CxS "LineAssembler$Fields" p s m args meth c cC_Fie_isWithin 4 (some .boolean))  (hM : C_Fie_isWithin_22   = some r) (ls : Array Slot) (hl : lv_has ls 4 []) : W p l e rm_Fie_isWithin s m args below meth c s.heap [] 0 0 (MQ below (QS (some (.int r))) args s 0 0 (fun _ => False)) (F0 m 22 ls []) := by
  have hx := C.1
  have hb := C.2.1
  have hown := C.2.2.2.2.1
  have hT := C.2.2.2.2.2.1
  unfold C_Fie_isWithin_22 at hM
  refine lv_iconst (pc := 22) (v := 0) hx hb dC_Fie_isWithin_22 (by decide) ?_
  exact bC_Fie_isWithin_23  C  _ hM _ (lv_sub hl [] rfl)
def C_Fie_isWithin (x0 : Int32) (x1 : Int32) (x2 : Int32) (x3 : Int32) : Option Int32 :=
  (if x0 < x1 then C_Fie_isWithin_22   else (if x2 < x0 then C_Fie_isWithin_22   else (if (x0 &&& (x3 - (1 : Int32))) = 0 then C_Fie_isWithin_23  (1 : Int32) else C_Fie_isWithin_22  )))
set_option maxHeartbeats 4000000 in
set_option maxRecDepth 100000 in
theorem bC_Fie_isWithin_0  {r : Int32} (C : CxS "LineAssembler$Fields" p s m args meth c cC_Fie_isWithin 4 (some .boolean)) (x0 : Int32) (x1 : Int32) (x2 : Int32) (x3 : Int32) (hM : C_Fie_isWithin  x0 x1 x2 x3 = some r) (ls : Array Slot) (hl : lv_has ls 4 [(0, .int x0), (1, .int x1), (2, .int x2), (3, .int x3)]) : W p l e rm_Fie_isWithin s m args below meth c s.heap [] 0 0 (MQ below (QS (some (.int r))) args s 0 0 (fun _ => False)) (F0 m 0 ls []) := by
  have hx := C.1
  have hb := C.2.1
  have hown := C.2.2.2.2.1
  have hT := C.2.2.2.2.2.1
  unfold C_Fie_isWithin at hM
  refine lv_iload_n (pc := 0) hx hb dC_Fie_isWithin_0 rfl (lv_at hl 0 rfl) ?_
  refine lv_iload_n (pc := 1) hx hb dC_Fie_isWithin_1 rfl (lv_at hl 1 rfl) ?_
  refine lv_icmp_lt (pc := 2) (tgt := 22) hx hb dC_Fie_isWithin_2 (by decide) (fun hc => ?_) (fun hc => ?_)
  · replace hM := it_t hc hM
    exact bC_Fie_isWithin_22  C   hM _ (lv_sub hl [] rfl)
  · replace hM := it_f hc hM
    refine lv_iload_n (pc := 5) hx hb dC_Fie_isWithin_5 rfl (lv_at hl 0 rfl) ?_
    refine lv_iload_n (pc := 6) hx hb dC_Fie_isWithin_6 rfl (lv_at hl 2 rfl) ?_
    refine lv_icmp_gt (pc := 7) (tgt := 22) hx hb dC_Fie_isWithin_7 (by decide) (fun hc => ?_) (fun hc => ?_)
    · replace hM := it_t hc hM
      exact bC_Fie_isWithin_22  C   hM _ (lv_sub hl [] rfl)
    · replace hM := it_f hc hM
      refine lv_iload_n (pc := 10) hx hb dC_Fie_isWithin_10 rfl (lv_at hl 0 rfl) ?_
      refine lv_iload_n (pc := 11) hx hb dC_Fie_isWithin_11 rfl (lv_at hl 3 rfl) ?_
      refine lv_iconst (pc := 12) (v := 1) hx hb dC_Fie_isWithin_12 (by decide) ?_
      refine lv_isub (pc := 13) hx hb dC_Fie_isWithin_13 ?_
      refine lv_iand (pc := 14) hx hb dC_Fie_isWithin_14 ?_
      refine lv_if_ne (pc := 15) (tgt := 22) hx hb dC_Fie_isWithin_15 (by decide) (fun hc => ?_) (fun hc => ?_)
      · replace hM := it_f hc hM
        exact bC_Fie_isWithin_22  C   hM _ (lv_sub hl [] rfl)
      · replace hM := it_t hc hM
        refine lv_iconst (pc := 18) (v := 1) hx hb dC_Fie_isWithin_18 (by decide) ?_
        refine lv_goto (pc := 19) (tgt := 23) hx hb dC_Fie_isWithin_19 (by decide) ?_
        exact bC_Fie_isWithin_23  C  _ hM _ (lv_sub hl [] rfl)
theorem kC_Fie_isWithin (l : Launch) (x0 : Int32) (x1 : Int32) (x2 : Int32) (x3 : Int32) {r : Int32} (hM : C_Fie_isWithin x0 x1 x2 x3 = some r) : KS l yC_Fie_isWithin cC_Fie_isWithin 4 (some .boolean) rm_Fie_isWithin [.int x0, .int x1, .int x2, .int x3] (some (.int r)) := x_enterS (by decide +kernel) (Nat.le_of_ble_eq_true rfl) (fun p e s m args below meth c C ls hl => bC_Fie_isWithin_0 C x0 x1 x2 x3 hM ls hl)
def C_Fie_pick (x0 : Int32) (x1 : Int32) (x2 : Int32) (x3 : Int32) : Option Int32 :=
  some (((x0 >>> (x1 &&& 31)) &&& (((1 : Int32) <<< (x2 &&& 31)) - (1 : Int32))) <<< (x3 &&& 31))
set_option maxHeartbeats 4000000 in
set_option maxRecDepth 100000 in
theorem bC_Fie_pick_0  {r : Int32} (C : CxS "LineAssembler$Fields" p s m args meth c cC_Fie_pick 4 (some .int)) (x0 : Int32) (x1 : Int32) (x2 : Int32) (x3 : Int32) (hM : C_Fie_pick  x0 x1 x2 x3 = some r) (ls : Array Slot) (hl : lv_has ls 4 [(0, .int x0), (1, .int x1), (2, .int x2), (3, .int x3)]) : W p l e rm_Fie_pick s m args below meth c s.heap [] 0 0 (MQ below (QS (some (.int r))) args s 0 0 (fun _ => False)) (F0 m 0 ls []) := by
  have hx := C.1
  have hb := C.2.1
  have hown := C.2.2.2.2.1
  have hT := C.2.2.2.2.2.1
  unfold C_Fie_pick at hM
  refine lv_iload_n (pc := 0) hx hb dC_Fie_pick_0 rfl (lv_at hl 0 rfl) ?_
  refine lv_iload_n (pc := 1) hx hb dC_Fie_pick_1 rfl (lv_at hl 1 rfl) ?_
  refine lv_ishr (pc := 2) hx hb dC_Fie_pick_2 ?_
  refine lv_iconst (pc := 3) (v := 1) hx hb dC_Fie_pick_3 (by decide) ?_
  refine lv_iload_n (pc := 4) hx hb dC_Fie_pick_4 rfl (lv_at hl 2 rfl) ?_
  refine lv_ishl (pc := 5) hx hb dC_Fie_pick_5 ?_
  refine lv_iconst (pc := 6) (v := 1) hx hb dC_Fie_pick_6 (by decide) ?_
  refine lv_isub (pc := 7) hx hb dC_Fie_pick_7 ?_
  refine lv_iand (pc := 8) hx hb dC_Fie_pick_8 ?_
  refine lv_iload_n (pc := 9) hx hb dC_Fie_pick_9 rfl (lv_at hl 3 rfl) ?_
  refine lv_ishl (pc := 10) hx hb dC_Fie_pick_10 ?_
  obtain rfl := sm_i hM
  exact x_retS (pc := 11) C rfl dC_Fie_pick_11
theorem kC_Fie_pick (l : Launch) (x0 : Int32) (x1 : Int32) (x2 : Int32) (x3 : Int32) {r : Int32} (hM : C_Fie_pick x0 x1 x2 x3 = some r) : KS l yC_Fie_pick cC_Fie_pick 4 (some .int) rm_Fie_pick [.int x0, .int x1, .int x2, .int x3] (some (.int r)) := x_enterS (by decide +kernel) (Nat.le_of_ble_eq_true rfl) (fun p e s m args below meth c C ls hl => bC_Fie_pick_0 C x0 x1 x2 x3 hM ls hl)
def C_Fie_registerBits_188 (t0 : Int32) : Option Int32 :=
  some t0
set_option maxHeartbeats 4000000 in
set_option maxRecDepth 100000 in
theorem bC_Fie_registerBits_188  {r : Int32} (C : CxS "LineAssembler$Fields" p s m args meth c cC_Fie_registerBits 3 (some .int)) (t0 : Int32) (hM : C_Fie_registerBits_188  t0 = some r) (ls : Array Slot) (hl : lv_has ls 3 []) : W p l e rm_Fie_registerBits s m args below meth c s.heap [] 0 0 (MQ below (QS (some (.int r))) args s 0 0 (fun _ => False)) (F0 m 188 ls [.int t0]) := by
  have hx := C.1
  have hb := C.2.1
  have hown := C.2.2.2.2.1
  have hT := C.2.2.2.2.2.1
  unfold C_Fie_registerBits_188 at hM
  obtain rfl := sm_i hM
  exact x_retS (pc := 188) C rfl dC_Fie_registerBits_188
def C_Fie_registerBits_172 (t0 : Int32) : Option Int32 :=
  some t0
set_option maxHeartbeats 4000000 in
set_option maxRecDepth 100000 in
theorem bC_Fie_registerBits_172  {r : Int32} (C : CxS "LineAssembler$Fields" p s m args meth c cC_Fie_registerBits 3 (some .int)) (t0 : Int32) (hM : C_Fie_registerBits_172  t0 = some r) (ls : Array Slot) (hl : lv_has ls 3 []) : W p l e rm_Fie_registerBits s m args below meth c s.heap [] 0 0 (MQ below (QS (some (.int r))) args s 0 0 (fun _ => False)) (F0 m 172 ls [.int t0]) := by
  have hx := C.1
  have hb := C.2.1
  have hown := C.2.2.2.2.1
  have hT := C.2.2.2.2.2.1
  unfold C_Fie_registerBits_172 at hM
  obtain rfl := sm_i hM
  exact x_retS (pc := 172) C rfl dC_Fie_registerBits_172
def C_Fie_registerBits_145 (t0 : Int32) : Option Int32 :=
  some t0
set_option maxHeartbeats 4000000 in
set_option maxRecDepth 100000 in
theorem bC_Fie_registerBits_145  {r : Int32} (C : CxS "LineAssembler$Fields" p s m args meth c cC_Fie_registerBits 3 (some .int)) (t0 : Int32) (hM : C_Fie_registerBits_145  t0 = some r) (ls : Array Slot) (hl : lv_has ls 3 []) : W p l e rm_Fie_registerBits s m args below meth c s.heap [] 0 0 (MQ below (QS (some (.int r))) args s 0 0 (fun _ => False)) (F0 m 145 ls [.int t0]) := by
  have hx := C.1
  have hb := C.2.1
  have hown := C.2.2.2.2.1
  have hT := C.2.2.2.2.2.1
  unfold C_Fie_registerBits_145 at hM
  obtain rfl := sm_i hM
  exact x_retS (pc := 145) C rfl dC_Fie_registerBits_145
def C_Fie_registerBits_157 (t0 : Int32) : Option Int32 :=
  some t0
set_option maxHeartbeats 4000000 in
set_option maxRecDepth 100000 in
theorem bC_Fie_registerBits_157  {r : Int32} (C : CxS "LineAssembler$Fields" p s m args meth c cC_Fie_registerBits 3 (some .int)) (t0 : Int32) (hM : C_Fie_registerBits_157  t0 = some r) (ls : Array Slot) (hl : lv_has ls 3 []) : W p l e rm_Fie_registerBits s m args below meth c s.heap [] 0 0 (MQ below (QS (some (.int r))) args s 0 0 (fun _ => False)) (F0 m 157 ls [.int t0]) := by
  have hx := C.1
  have hb := C.2.1
  have hown := C.2.2.2.2.1
  have hT := C.2.2.2.2.2.1
  unfold C_Fie_registerBits_157 at hM
  obtain rfl := sm_i hM
  exact x_retS (pc := 157) C rfl dC_Fie_registerBits_157
def C_Fie_registerBits_131 (t0 : Int32) : Option Int32 :=
  some t0
set_option maxHeartbeats 4000000 in
set_option maxRecDepth 100000 in
theorem bC_Fie_registerBits_131  {r : Int32} (C : CxS "LineAssembler$Fields" p s m args meth c cC_Fie_registerBits 3 (some .int)) (t0 : Int32) (hM : C_Fie_registerBits_131  t0 = some r) (ls : Array Slot) (hl : lv_has ls 3 []) : W p l e rm_Fie_registerBits s m args below meth c s.heap [] 0 0 (MQ below (QS (some (.int r))) args s 0 0 (fun _ => False)) (F0 m 131 ls [.int t0]) := by
  have hx := C.1
  have hb := C.2.1
  have hown := C.2.2.2.2.1
  have hT := C.2.2.2.2.2.1
  unfold C_Fie_registerBits_131 at hM
  obtain rfl := sm_i hM
  exact x_retS (pc := 131) C rfl dC_Fie_registerBits_131
def C_Fie_registerBits_17 (x0 : Int32) (x1 : Int32) (t0 : Int32) : Option Int32 :=
  (if x0 = (65 : Int32) then (if t0 = 0 then C_Fie_registerBits_188  (-1 : Int32) else C_Fie_registerBits_188  ((x1 - (8 : Int32)) <<< ((7 : Int32) &&& 31))) else (if x0 = (68 : Int32) then (if t0 = 0 then C_Fie_registerBits_172  (-1 : Int32) else C_Fie_registerBits_172  ((x1 - (8 : Int32)) <<< ((2 : Int32) &&& 31))) else (if x0 = (97 : Int32) then some (x1 <<< ((15 : Int32) &&& 31)) else (if x0 = (98 : Int32) then some (x1 <<< ((20 : Int32) &&& 31)) else (if x0 = (100 : Int32) then some (x1 <<< ((7 : Int32) &&& 31)) else (if x0 = (108 : Int32) then (if x1 = (2 : Int32) then C_Fie_registerBits_145  (-1 : Int32) else C_Fie_registerBits_145  (x1 <<< ((7 : Int32) &&& 31))) else (if x0 = (109 : Int32) then (if x1 = 0 then C_Fie_registerBits_157  (-1 : Int32) else C_Fie_registerBits_157  (x1 <<< ((2 : Int32) &&& 31))) else (if x0 = (110 : Int32) then (if x1 = 0 then C_Fie_registerBits_131  (-1 : Int32) else C_Fie_registerBits_131  (x1 <<< ((7 : Int32) &&& 31))) else (if x0 = (115 : Int32) then some (x1 <<< ((2 : Int32) &&& 31)) else some (-1 : Int32))))))))))
set_option maxHeartbeats 4000000 in
set_option maxRecDepth 100000 in
theorem bC_Fie_registerBits_17  {r : Int32} (C : CxS "LineAssembler$Fields" p s m args meth c cC_Fie_registerBits 3 (some .int)) (x0 : Int32) (x1 : Int32) (t0 : Int32) (hM : C_Fie_registerBits_17  x0 x1 t0 = some r) (ls : Array Slot) (hl : lv_has ls 3 [(0, .int x0), (1, .int x1)]) : W p l e rm_Fie_registerBits s m args below meth c s.heap [] 0 0 (MQ below (QS (some (.int r))) args s 0 0 (fun _ => False)) (F0 m 17 ls [.int t0]) := by
  have hx := C.1
  have hb := C.2.1
  have hown := C.2.2.2.2.1
  have hT := C.2.2.2.2.2.1
  unfold C_Fie_registerBits_17 at hM
  refine lv_istore_n (pc := 17) (lv' := [(2, .int t0), (0, .int x0), (1, .int x1)]) hx hb dC_Fie_registerBits_17 rfl hl (by decide) rfl (fun ls hl => ?_)
  refine lv_iload_n (pc := 18) hx hb dC_Fie_registerBits_18 rfl (lv_at hl 1 rfl) ?_
  by_cases k1_0 : x0 = (65 : Int32)
  · replace hM := it_t k1_0 hM
    refine lv_lookup (pc := 19) (off := 154) (tgt := 173) hx hb dC_Fie_registerBits_19 (by decide) (by rw [k1_0]; decide) (by decide) ?_
    refine lv_iload_n (pc := 173) hx hb dC_Fie_registerBits_173 rfl (lv_at hl 0 rfl) ?_
    refine lv_if_eq (pc := 174) (tgt := 187) hx hb dC_Fie_registerBits_174 (by decide) (fun hc => ?_) (fun hc => ?_)
    · replace hM := it_t hc hM
      refine lv_iconst (pc := 187) (v := -1) hx hb dC_Fie_registerBits_187 (by decide) ?_
      exact bC_Fie_registerBits_188  C  _ hM _ (lv_sub hl [] rfl)
    · replace hM := it_f hc hM
      refine lv_iload_n (pc := 177) hx hb dC_Fie_registerBits_177 rfl (lv_at hl 2 rfl) ?_
      refine lv_bipush (pc := 178) (v := 8) hx hb dC_Fie_registerBits_178 (by decide) ?_
      refine lv_isub (pc := 180) hx hb dC_Fie_registerBits_180 ?_
      refine lv_bipush (pc := 181) (v := 7) hx hb dC_Fie_registerBits_181 (by decide) ?_
      refine lv_ishl (pc := 183) hx hb dC_Fie_registerBits_183 ?_
      refine lv_goto (pc := 184) (tgt := 188) hx hb dC_Fie_registerBits_184 (by decide) ?_
      exact bC_Fie_registerBits_188  C  _ hM _ (lv_sub hl [] rfl)
  · replace hM := it_f k1_0 hM
    by_cases k1_1 : x0 = (68 : Int32)
    · replace hM := it_t k1_1 hM
      refine lv_lookup (pc := 19) (off := 139) (tgt := 158) hx hb dC_Fie_registerBits_19 (by decide) (by rw [k1_1]; decide) (by decide) ?_
      refine lv_iload_n (pc := 158) hx hb dC_Fie_registerBits_158 rfl (lv_at hl 0 rfl) ?_
      refine lv_if_eq (pc := 159) (tgt := 171) hx hb dC_Fie_registerBits_159 (by decide) (fun hc => ?_) (fun hc => ?_)
      · replace hM := it_t hc hM
        refine lv_iconst (pc := 171) (v := -1) hx hb dC_Fie_registerBits_171 (by decide) ?_
        exact bC_Fie_registerBits_172  C  _ hM _ (lv_sub hl [] rfl)
      · replace hM := it_f hc hM
        refine lv_iload_n (pc := 162) hx hb dC_Fie_registerBits_162 rfl (lv_at hl 2 rfl) ?_
        refine lv_bipush (pc := 163) (v := 8) hx hb dC_Fie_registerBits_163 (by decide) ?_
        refine lv_isub (pc := 165) hx hb dC_Fie_registerBits_165 ?_
        refine lv_iconst (pc := 166) (v := 2) hx hb dC_Fie_registerBits_166 (by decide) ?_
        refine lv_ishl (pc := 167) hx hb dC_Fie_registerBits_167 ?_
        refine lv_goto (pc := 168) (tgt := 172) hx hb dC_Fie_registerBits_168 (by decide) ?_
        exact bC_Fie_registerBits_172  C  _ hM _ (lv_sub hl [] rfl)
    · replace hM := it_f k1_1 hM
      by_cases k1_2 : x0 = (97 : Int32)
      · replace hM := it_t k1_2 hM
        refine lv_lookup (pc := 19) (off := 86) (tgt := 105) hx hb dC_Fie_registerBits_19 (by decide) (by rw [k1_2]; decide) (by decide) ?_
        refine lv_iload_n (pc := 105) hx hb dC_Fie_registerBits_105 rfl (lv_at hl 2 rfl) ?_
        refine lv_bipush (pc := 106) (v := 15) hx hb dC_Fie_registerBits_106 (by decide) ?_
        refine lv_ishl (pc := 108) hx hb dC_Fie_registerBits_108 ?_
        obtain rfl := sm_i hM
        exact x_retS (pc := 109) C rfl dC_Fie_registerBits_109
      · replace hM := it_f k1_2 hM
        by_cases k1_3 : x0 = (98 : Int32)
        · replace hM := it_t k1_3 hM
          refine lv_lookup (pc := 19) (off := 91) (tgt := 110) hx hb dC_Fie_registerBits_19 (by decide) (by rw [k1_3]; decide) (by decide) ?_
          refine lv_iload_n (pc := 110) hx hb dC_Fie_registerBits_110 rfl (lv_at hl 2 rfl) ?_
          refine lv_bipush (pc := 111) (v := 20) hx hb dC_Fie_registerBits_111 (by decide) ?_
          refine lv_ishl (pc := 113) hx hb dC_Fie_registerBits_113 ?_
          obtain rfl := sm_i hM
          exact x_retS (pc := 114) C rfl dC_Fie_registerBits_114
        · replace hM := it_f k1_3 hM
          by_cases k1_4 : x0 = (100 : Int32)
          · replace hM := it_t k1_4 hM
            refine lv_lookup (pc := 19) (off := 81) (tgt := 100) hx hb dC_Fie_registerBits_19 (by decide) (by rw [k1_4]; decide) (by decide) ?_
            refine lv_iload_n (pc := 100) hx hb dC_Fie_registerBits_100 rfl (lv_at hl 2 rfl) ?_
            refine lv_bipush (pc := 101) (v := 7) hx hb dC_Fie_registerBits_101 (by decide) ?_
            refine lv_ishl (pc := 103) hx hb dC_Fie_registerBits_103 ?_
            obtain rfl := sm_i hM
            exact x_retS (pc := 104) C rfl dC_Fie_registerBits_104
          · replace hM := it_f k1_4 hM
            by_cases k1_5 : x0 = (108 : Int32)
            · replace hM := it_t k1_5 hM
              refine lv_lookup (pc := 19) (off := 113) (tgt := 132) hx hb dC_Fie_registerBits_19 (by decide) (by rw [k1_5]; decide) (by decide) ?_
              refine lv_iload_n (pc := 132) hx hb dC_Fie_registerBits_132 rfl (lv_at hl 2 rfl) ?_
              refine lv_iconst (pc := 133) (v := 2) hx hb dC_Fie_registerBits_133 (by decide) ?_
              refine lv_icmp_ne (pc := 134) (tgt := 141) hx hb dC_Fie_registerBits_134 (by decide) (fun hc => ?_) (fun hc => ?_)
              · replace hM := it_f hc hM
                refine lv_iload_n (pc := 141) hx hb dC_Fie_registerBits_141 rfl (lv_at hl 2 rfl) ?_
                refine lv_bipush (pc := 142) (v := 7) hx hb dC_Fie_registerBits_142 (by decide) ?_
                refine lv_ishl (pc := 144) hx hb dC_Fie_registerBits_144 ?_
                exact bC_Fie_registerBits_145  C  _ hM _ (lv_sub hl [] rfl)
              · replace hM := it_t hc hM
                refine lv_iconst (pc := 137) (v := -1) hx hb dC_Fie_registerBits_137 (by decide) ?_
                refine lv_goto (pc := 138) (tgt := 145) hx hb dC_Fie_registerBits_138 (by decide) ?_
                exact bC_Fie_registerBits_145  C  _ hM _ (lv_sub hl [] rfl)
            · replace hM := it_f k1_5 hM
              by_cases k1_6 : x0 = (109 : Int32)
              · replace hM := it_t k1_6 hM
                refine lv_lookup (pc := 19) (off := 127) (tgt := 146) hx hb dC_Fie_registerBits_19 (by decide) (by rw [k1_6]; decide) (by decide) ?_
                refine lv_iload_n (pc := 146) hx hb dC_Fie_registerBits_146 rfl (lv_at hl 2 rfl) ?_
                refine lv_if_ne (pc := 147) (tgt := 154) hx hb dC_Fie_registerBits_147 (by decide) (fun hc => ?_) (fun hc => ?_)
                · replace hM := it_f hc hM
                  refine lv_iload_n (pc := 154) hx hb dC_Fie_registerBits_154 rfl (lv_at hl 2 rfl) ?_
                  refine lv_iconst (pc := 155) (v := 2) hx hb dC_Fie_registerBits_155 (by decide) ?_
                  refine lv_ishl (pc := 156) hx hb dC_Fie_registerBits_156 ?_
                  exact bC_Fie_registerBits_157  C  _ hM _ (lv_sub hl [] rfl)
                · replace hM := it_t hc hM
                  refine lv_iconst (pc := 150) (v := -1) hx hb dC_Fie_registerBits_150 (by decide) ?_
                  refine lv_goto (pc := 151) (tgt := 157) hx hb dC_Fie_registerBits_151 (by decide) ?_
                  exact bC_Fie_registerBits_157  C  _ hM _ (lv_sub hl [] rfl)
              · replace hM := it_f k1_6 hM
                by_cases k1_7 : x0 = (110 : Int32)
                · replace hM := it_t k1_7 hM
                  refine lv_lookup (pc := 19) (off := 100) (tgt := 119) hx hb dC_Fie_registerBits_19 (by decide) (by rw [k1_7]; decide) (by decide) ?_
                  refine lv_iload_n (pc := 119) hx hb dC_Fie_registerBits_119 rfl (lv_at hl 2 rfl) ?_
                  refine lv_if_ne (pc := 120) (tgt := 127) hx hb dC_Fie_registerBits_120 (by decide) (fun hc => ?_) (fun hc => ?_)
                  · replace hM := it_f hc hM
                    refine lv_iload_n (pc := 127) hx hb dC_Fie_registerBits_127 rfl (lv_at hl 2 rfl) ?_
                    refine lv_bipush (pc := 128) (v := 7) hx hb dC_Fie_registerBits_128 (by decide) ?_
                    refine lv_ishl (pc := 130) hx hb dC_Fie_registerBits_130 ?_
                    exact bC_Fie_registerBits_131  C  _ hM _ (lv_sub hl [] rfl)
                  · replace hM := it_t hc hM
                    refine lv_iconst (pc := 123) (v := -1) hx hb dC_Fie_registerBits_123 (by decide) ?_
                    refine lv_goto (pc := 124) (tgt := 131) hx hb dC_Fie_registerBits_124 (by decide) ?_
                    exact bC_Fie_registerBits_131  C  _ hM _ (lv_sub hl [] rfl)
                · replace hM := it_f k1_7 hM
                  by_cases k1_8 : x0 = (115 : Int32)
                  · replace hM := it_t k1_8 hM
                    refine lv_lookup (pc := 19) (off := 96) (tgt := 115) hx hb dC_Fie_registerBits_19 (by decide) (by rw [k1_8]; decide) (by decide) ?_
                    refine lv_iload_n (pc := 115) hx hb dC_Fie_registerBits_115 rfl (lv_at hl 2 rfl) ?_
                    refine lv_iconst (pc := 116) (v := 2) hx hb dC_Fie_registerBits_116 (by decide) ?_
                    refine lv_ishl (pc := 117) hx hb dC_Fie_registerBits_117 ?_
                    obtain rfl := sm_i hM
                    exact x_retS (pc := 118) C rfl dC_Fie_registerBits_118
                  · replace hM := it_f k1_8 hM
                    refine lv_lookup (pc := 19) (off := 170) (tgt := 189) hx hb dC_Fie_registerBits_19 (by decide) (by rw [lv_osw k1_0 (by decide)]; rw [lv_osw k1_1 (by decide)]; rw [lv_osw k1_2 (by decide)]; rw [lv_osw k1_3 (by decide)]; rw [lv_osw k1_4 (by decide)]; rw [lv_osw k1_5 (by decide)]; rw [lv_osw k1_6 (by decide)]; rw [lv_osw k1_7 (by decide)]; rw [lv_osw k1_8 (by decide)]; rfl) (by decide) ?_
                    refine lv_iconst (pc := 189) (v := -1) hx hb dC_Fie_registerBits_189 (by decide) ?_
                    obtain rfl := sm_i hM
                    exact x_retS (pc := 190) C rfl dC_Fie_registerBits_190
def C_Fie_registerBits_16 (x0 : Int32) (x1 : Int32) : Option Int32 :=
  C_Fie_registerBits_17  x0 x1 (0 : Int32)
set_option maxHeartbeats 4000000 in
set_option maxRecDepth 100000 in
theorem bC_Fie_registerBits_16  {r : Int32} (C : CxS "LineAssembler$Fields" p s m args meth c cC_Fie_registerBits 3 (some .int)) (x0 : Int32) (x1 : Int32) (hM : C_Fie_registerBits_16  x0 x1 = some r) (ls : Array Slot) (hl : lv_has ls 3 [(0, .int x0), (1, .int x1)]) : W p l e rm_Fie_registerBits s m args below meth c s.heap [] 0 0 (MQ below (QS (some (.int r))) args s 0 0 (fun _ => False)) (F0 m 16 ls []) := by
  have hx := C.1
  have hb := C.2.1
  have hown := C.2.2.2.2.1
  have hT := C.2.2.2.2.2.1
  unfold C_Fie_registerBits_16 at hM
  refine lv_iconst (pc := 16) (v := 0) hx hb dC_Fie_registerBits_16 (by decide) ?_
  exact bC_Fie_registerBits_17  C  _ _ _ hM _ (lv_sub hl [0, 1] rfl)
def C_Fie_registerBits (x0 : Int32) (x1 : Int32) : Option Int32 :=
  (if x1 < (8 : Int32) then C_Fie_registerBits_16  x0 x1 else (if (15 : Int32) < x1 then C_Fie_registerBits_16  x0 x1 else C_Fie_registerBits_17  x0 x1 (1 : Int32)))
set_option maxHeartbeats 4000000 in
set_option maxRecDepth 100000 in
theorem bC_Fie_registerBits_0  {r : Int32} (C : CxS "LineAssembler$Fields" p s m args meth c cC_Fie_registerBits 3 (some .int)) (x0 : Int32) (x1 : Int32) (hM : C_Fie_registerBits  x0 x1 = some r) (ls : Array Slot) (hl : lv_has ls 3 [(0, .int x0), (1, .int x1)]) : W p l e rm_Fie_registerBits s m args below meth c s.heap [] 0 0 (MQ below (QS (some (.int r))) args s 0 0 (fun _ => False)) (F0 m 0 ls []) := by
  have hx := C.1
  have hb := C.2.1
  have hown := C.2.2.2.2.1
  have hT := C.2.2.2.2.2.1
  unfold C_Fie_registerBits at hM
  refine lv_iload_n (pc := 0) hx hb dC_Fie_registerBits_0 rfl (lv_at hl 1 rfl) ?_
  refine lv_bipush (pc := 1) (v := 8) hx hb dC_Fie_registerBits_1 (by decide) ?_
  refine lv_icmp_lt (pc := 3) (tgt := 16) hx hb dC_Fie_registerBits_3 (by decide) (fun hc => ?_) (fun hc => ?_)
  · replace hM := it_t hc hM
    exact bC_Fie_registerBits_16  C  _ _ hM _ (lv_sub hl [0, 1] rfl)
  · replace hM := it_f hc hM
    refine lv_iload_n (pc := 6) hx hb dC_Fie_registerBits_6 rfl (lv_at hl 1 rfl) ?_
    refine lv_bipush (pc := 7) (v := 15) hx hb dC_Fie_registerBits_7 (by decide) ?_
    refine lv_icmp_gt (pc := 9) (tgt := 16) hx hb dC_Fie_registerBits_9 (by decide) (fun hc => ?_) (fun hc => ?_)
    · replace hM := it_t hc hM
      exact bC_Fie_registerBits_16  C  _ _ hM _ (lv_sub hl [0, 1] rfl)
    · replace hM := it_f hc hM
      refine lv_iconst (pc := 12) (v := 1) hx hb dC_Fie_registerBits_12 (by decide) ?_
      refine lv_goto (pc := 13) (tgt := 17) hx hb dC_Fie_registerBits_13 (by decide) ?_
      exact bC_Fie_registerBits_17  C  _ _ _ hM _ (lv_sub hl [0, 1] rfl)
theorem kC_Fie_registerBits (l : Launch) (x0 : Int32) (x1 : Int32) {r : Int32} (hM : C_Fie_registerBits x0 x1 = some r) : KS l yC_Fie_registerBits cC_Fie_registerBits 3 (some .int) rm_Fie_registerBits [.int x0, .int x1] (some (.int r)) := x_enterS (by decide +kernel) (Nat.le_of_ble_eq_true rfl) (fun p e s m args below meth c C ls hl => bC_Fie_registerBits_0 C x0 x1 hM ls hl)
def C_Fie_firstLength_71 (t0 : Int32) : Option Int32 :=
  some t0
set_option maxHeartbeats 4000000 in
set_option maxRecDepth 100000 in
theorem bC_Fie_firstLength_71  {r : Int32} (C : CxS "LineAssembler$Fields" p s m args meth c cC_Fie_firstLength 2 (some .int)) (t0 : Int32) (hM : C_Fie_firstLength_71  t0 = some r) (ls : Array Slot) (hl : lv_has ls 2 []) : W p l e rm_Fie_firstLength s m args below meth c s.heap [] 0 0 (MQ below (QS (some (.int r))) args s 0 0 (fun _ => False)) (F0 m 71 ls [.int t0]) := by
  have hx := C.1
  have hb := C.2.1
  have hown := C.2.2.2.2.1
  have hT := C.2.2.2.2.2.1
  unfold C_Fie_firstLength_71 at hM
  obtain rfl := sm_i hM
  exact x_retS (pc := 71) C rfl dC_Fie_firstLength_71
def C_Fie_firstLength_55 (t0 : Int32) : Option Int32 :=
  some t0
set_option maxHeartbeats 4000000 in
set_option maxRecDepth 100000 in
theorem bC_Fie_firstLength_55  {r : Int32} (C : CxS "LineAssembler$Fields" p s m args meth c cC_Fie_firstLength 2 (some .int)) (t0 : Int32) (hM : C_Fie_firstLength_55  t0 = some r) (ls : Array Slot) (hl : lv_has ls 2 []) : W p l e rm_Fie_firstLength s m args below meth c s.heap [] 0 0 (MQ below (QS (some (.int r))) args s 0 0 (fun _ => False)) (F0 m 55 ls [.int t0]) := by
  have hx := C.1
  have hb := C.2.1
  have hown := C.2.2.2.2.1
  have hT := C.2.2.2.2.2.1
  unfold C_Fie_firstLength_55 at hM
  obtain rfl := sm_i hM
  exact x_retS (pc := 55) C rfl dC_Fie_firstLength_55
def C_Fie_firstLength (x0 : Int32) (x1 : Int32) : Option Int32 :=
  (if x0 = (64 : Int32) then some (8 : Int32) else (if x0 = (120 : Int32) then some (2 : Int32) else (if x0 = (122 : Int32) then (if ((x1 >>> ((15 : Int32) &&& 31)) &&& (24 : Int32)) = (8 : Int32) then C_Fie_firstLength_55  (2 : Int32) else C_Fie_firstLength_55  (4 : Int32)) else (if (x1 &&& (3 : Int32)) = (3 : Int32) then C_Fie_firstLength_71  (4 : Int32) else C_Fie_firstLength_71  (2 : Int32)))))
set_option maxHeartbeats 4000000 in
set_option maxRecDepth 100000 in
theorem bC_Fie_firstLength_0  {r : Int32} (C : CxS "LineAssembler$Fields" p s m args meth c cC_Fie_firstLength 2 (some .int)) (x0 : Int32) (x1 : Int32) (hM : C_Fie_firstLength  x0 x1 = some r) (ls : Array Slot) (hl : lv_has ls 2 [(0, .int x0), (1, .int x1)]) : W p l e rm_Fie_firstLength s m args below meth c s.heap [] 0 0 (MQ below (QS (some (.int r))) args s 0 0 (fun _ => False)) (F0 m 0 ls []) := by
  have hx := C.1
  have hb := C.2.1
  have hown := C.2.2.2.2.1
  have hT := C.2.2.2.2.2.1
  unfold C_Fie_firstLength at hM
  refine lv_iload_n (pc := 0) hx hb dC_Fie_firstLength_0 rfl (lv_at hl 0 rfl) ?_
  by_cases k1_0 : x0 = (64 : Int32)
  · replace hM := it_t k1_0 hM
    refine lv_lookup (pc := 1) (off := 55) (tgt := 56) hx hb dC_Fie_firstLength_1 (by decide) (by rw [k1_0]; decide) (by decide) ?_
    refine lv_bipush (pc := 56) (v := 8) hx hb dC_Fie_firstLength_56 (by decide) ?_
    obtain rfl := sm_i hM
    exact x_retS (pc := 58) C rfl dC_Fie_firstLength_58
  · replace hM := it_f k1_0 hM
    by_cases k1_1 : x0 = (120 : Int32)
    · replace hM := it_t k1_1 hM
      refine lv_lookup (pc := 1) (off := 35) (tgt := 36) hx hb dC_Fie_firstLength_1 (by decide) (by rw [k1_1]; decide) (by decide) ?_
      refine lv_iconst (pc := 36) (v := 2) hx hb dC_Fie_firstLength_36 (by decide) ?_
      obtain rfl := sm_i hM
      exact x_retS (pc := 37) C rfl dC_Fie_firstLength_37
    · replace hM := it_f k1_1 hM
      by_cases k1_2 : x0 = (122 : Int32)
      · replace hM := it_t k1_2 hM
        refine lv_lookup (pc := 1) (off := 37) (tgt := 38) hx hb dC_Fie_firstLength_1 (by decide) (by rw [k1_2]; decide) (by decide) ?_
        refine lv_iload_n (pc := 38) hx hb dC_Fie_firstLength_38 rfl (lv_at hl 1 rfl) ?_
        refine lv_bipush (pc := 39) (v := 15) hx hb dC_Fie_firstLength_39 (by decide) ?_
        refine lv_ishr (pc := 41) hx hb dC_Fie_firstLength_41 ?_
        refine lv_bipush (pc := 42) (v := 24) hx hb dC_Fie_firstLength_42 (by decide) ?_
        refine lv_iand (pc := 44) hx hb dC_Fie_firstLength_44 ?_
        refine lv_bipush (pc := 45) (v := 8) hx hb dC_Fie_firstLength_45 (by decide) ?_
        refine lv_icmp_ne (pc := 47) (tgt := 54) hx hb dC_Fie_firstLength_47 (by decide) (fun hc => ?_) (fun hc => ?_)
        · replace hM := it_f hc hM
          refine lv_iconst (pc := 54) (v := 4) hx hb dC_Fie_firstLength_54 (by decide) ?_
          exact bC_Fie_firstLength_55  C  _ hM _ (lv_sub hl [] rfl)
        · replace hM := it_t hc hM
          refine lv_iconst (pc := 50) (v := 2) hx hb dC_Fie_firstLength_50 (by decide) ?_
          refine lv_goto (pc := 51) (tgt := 55) hx hb dC_Fie_firstLength_51 (by decide) ?_
          exact bC_Fie_firstLength_55  C  _ hM _ (lv_sub hl [] rfl)
      · replace hM := it_f k1_2 hM
        refine lv_lookup (pc := 1) (off := 58) (tgt := 59) hx hb dC_Fie_firstLength_1 (by decide) (by rw [lv_osw k1_0 (by decide)]; rw [lv_osw k1_1 (by decide)]; rw [lv_osw k1_2 (by decide)]; rfl) (by decide) ?_
        refine lv_iload_n (pc := 59) hx hb dC_Fie_firstLength_59 rfl (lv_at hl 1 rfl) ?_
        refine lv_iconst (pc := 60) (v := 3) hx hb dC_Fie_firstLength_60 (by decide) ?_
        refine lv_iand (pc := 61) hx hb dC_Fie_firstLength_61 ?_
        refine lv_iconst (pc := 62) (v := 3) hx hb dC_Fie_firstLength_62 (by decide) ?_
        refine lv_icmp_ne (pc := 63) (tgt := 70) hx hb dC_Fie_firstLength_63 (by decide) (fun hc => ?_) (fun hc => ?_)
        · replace hM := it_f hc hM
          refine lv_iconst (pc := 70) (v := 2) hx hb dC_Fie_firstLength_70 (by decide) ?_
          exact bC_Fie_firstLength_71  C  _ hM _ (lv_sub hl [] rfl)
        · replace hM := it_t hc hM
          refine lv_iconst (pc := 66) (v := 4) hx hb dC_Fie_firstLength_66 (by decide) ?_
          refine lv_goto (pc := 67) (tgt := 71) hx hb dC_Fie_firstLength_67 (by decide) ?_
          exact bC_Fie_firstLength_71  C  _ hM _ (lv_sub hl [] rfl)
theorem kC_Fie_firstLength (l : Launch) (x0 : Int32) (x1 : Int32) {r : Int32} (hM : C_Fie_firstLength x0 x1 = some r) : KS l yC_Fie_firstLength cC_Fie_firstLength 2 (some .int) rm_Fie_firstLength [.int x0, .int x1] (some (.int r)) := x_enterS (by decide +kernel) (Nat.le_of_ble_eq_true rfl) (fun p e s m args below meth c C ls hl => bC_Fie_firstLength_0 C x0 x1 hM ls hl)
def C_Fie_lastLength_28 (t0 : Int32) : Option Int32 :=
  some t0
set_option maxHeartbeats 4000000 in
set_option maxRecDepth 100000 in
theorem bC_Fie_lastLength_28  {r : Int32} (C : CxS "LineAssembler$Fields" p s m args meth c cC_Fie_lastLength 1 (some .int)) (t0 : Int32) (hM : C_Fie_lastLength_28  t0 = some r) (ls : Array Slot) (hl : lv_has ls 1 []) : W p l e rm_Fie_lastLength s m args below meth c s.heap [] 0 0 (MQ below (QS (some (.int r))) args s 0 0 (fun _ => False)) (F0 m 28 ls [.int t0]) := by
  have hx := C.1
  have hb := C.2.1
  have hown := C.2.2.2.2.1
  have hT := C.2.2.2.2.2.1
  unfold C_Fie_lastLength_28 at hM
  obtain rfl := sm_i hM
  exact x_retS (pc := 28) C rfl dC_Fie_lastLength_28
def C_Fie_lastLength_22  : Option Int32 :=
  C_Fie_lastLength_28  (8 : Int32)
set_option maxHeartbeats 4000000 in
set_option maxRecDepth 100000 in
theorem bC_Fie_lastLength_22  {r : Int32} (C : CxS "LineAssembler$Fields" p s m args meth c cC_Fie_lastLength 1 (some .int))  (hM : C_Fie_lastLength_22   = some r) (ls : Array Slot) (hl : lv_has ls 1 []) : W p l e rm_Fie_lastLength s m args below meth c s.heap [] 0 0 (MQ below (QS (some (.int r))) args s 0 0 (fun _ => False)) (F0 m 22 ls []) := by
  have hx := C.1
  have hb := C.2.1
  have hown := C.2.2.2.2.1
  have hT := C.2.2.2.2.2.1
  unfold C_Fie_lastLength_22 at hM
  refine lv_bipush (pc := 22) (v := 8) hx hb dC_Fie_lastLength_22 (by decide) ?_
  refine lv_goto (pc := 24) (tgt := 28) hx hb dC_Fie_lastLength_24 (by decide) ?_
  exact bC_Fie_lastLength_28  C  _ hM _ (lv_sub hl [] rfl)
def C_Fie_lastLength (x0 : Int32) : Option Int32 :=
  (if x0 = (120 : Int32) then C_Fie_lastLength_28  (4 : Int32) else (if x0 = (122 : Int32) then C_Fie_lastLength_22   else (if x0 = (116 : Int32) then C_Fie_lastLength_22   else C_Fie_lastLength_28  (0 : Int32))))
set_option maxHeartbeats 4000000 in
set_option maxRecDepth 100000 in
theorem bC_Fie_lastLength_0  {r : Int32} (C : CxS "LineAssembler$Fields" p s m args meth c cC_Fie_lastLength 1 (some .int)) (x0 : Int32) (hM : C_Fie_lastLength  x0 = some r) (ls : Array Slot) (hl : lv_has ls 1 [(0, .int x0)]) : W p l e rm_Fie_lastLength s m args below meth c s.heap [] 0 0 (MQ below (QS (some (.int r))) args s 0 0 (fun _ => False)) (F0 m 0 ls []) := by
  have hx := C.1
  have hb := C.2.1
  have hown := C.2.2.2.2.1
  have hT := C.2.2.2.2.2.1
  unfold C_Fie_lastLength at hM
  refine lv_iload_n (pc := 0) hx hb dC_Fie_lastLength_0 rfl (lv_at hl 0 rfl) ?_
  refine lv_bipush (pc := 1) (v := 120) hx hb dC_Fie_lastLength_1 (by decide) ?_
  refine lv_icmp_ne (pc := 3) (tgt := 10) hx hb dC_Fie_lastLength_3 (by decide) (fun hc => ?_) (fun hc => ?_)
  · replace hM := it_f hc hM
    refine lv_iload_n (pc := 10) hx hb dC_Fie_lastLength_10 rfl (lv_at hl 0 rfl) ?_
    refine lv_bipush (pc := 11) (v := 122) hx hb dC_Fie_lastLength_11 (by decide) ?_
    refine lv_icmp_eq (pc := 13) (tgt := 22) hx hb dC_Fie_lastLength_13 (by decide) (fun hc => ?_) (fun hc => ?_)
    · replace hM := it_t hc hM
      exact bC_Fie_lastLength_22  C   hM _ (lv_sub hl [] rfl)
    · replace hM := it_f hc hM
      refine lv_iload_n (pc := 16) hx hb dC_Fie_lastLength_16 rfl (lv_at hl 0 rfl) ?_
      refine lv_bipush (pc := 17) (v := 116) hx hb dC_Fie_lastLength_17 (by decide) ?_
      refine lv_icmp_ne (pc := 19) (tgt := 27) hx hb dC_Fie_lastLength_19 (by decide) (fun hc => ?_) (fun hc => ?_)
      · replace hM := it_f hc hM
        refine lv_iconst (pc := 27) (v := 0) hx hb dC_Fie_lastLength_27 (by decide) ?_
        exact bC_Fie_lastLength_28  C  _ hM _ (lv_sub hl [] rfl)
      · replace hM := it_t hc hM
        exact bC_Fie_lastLength_22  C   hM _ (lv_sub hl [] rfl)
  · replace hM := it_t hc hM
    refine lv_iconst (pc := 6) (v := 4) hx hb dC_Fie_lastLength_6 (by decide) ?_
    refine lv_goto (pc := 7) (tgt := 28) hx hb dC_Fie_lastLength_7 (by decide) ?_
    exact bC_Fie_lastLength_28  C  _ hM _ (lv_sub hl [] rfl)
theorem kC_Fie_lastLength (l : Launch) (x0 : Int32) {r : Int32} (hM : C_Fie_lastLength x0 = some r) : KS l yC_Fie_lastLength cC_Fie_lastLength 1 (some .int) rm_Fie_lastLength [.int x0] (some (.int r)) := x_enterS (by decide +kernel) (Nat.le_of_ble_eq_true rfl) (fun p e s m args below meth c C ls hl => bC_Fie_lastLength_0 C x0 hM ls hl)
def C_Fie_markFor_71 (t0 : Int32) : Option Int32 :=
  some t0
set_option maxHeartbeats 4000000 in
set_option maxRecDepth 100000 in
theorem bC_Fie_markFor_71  {r : Int32} (C : CxS "LineAssembler$Fields" p s m args meth c cC_Fie_markFor 2 (some .int)) (t0 : Int32) (hM : C_Fie_markFor_71  t0 = some r) (ls : Array Slot) (hl : lv_has ls 2 []) : W p l e rm_Fie_markFor s m args below meth c s.heap [] 0 0 (MQ below (QS (some (.int r))) args s 0 0 (fun _ => False)) (F0 m 71 ls [.int t0]) := by
  have hx := C.1
  have hb := C.2.1
  have hown := C.2.2.2.2.1
  have hT := C.2.2.2.2.2.1
  unfold C_Fie_markFor_71 at hM
  obtain rfl := sm_i hM
  exact x_retS (pc := 71) C rfl dC_Fie_markFor_71
def C_Fie_markFor_49 (x1 : Int32) : Option Int32 :=
  (if x1 = (2 : Int32) then C_Fie_markFor_71  (66 : Int32) else (if x1 = (4 : Int32) then C_Fie_markFor_71  (116 : Int32) else C_Fie_markFor_71  (106 : Int32)))
set_option maxHeartbeats 4000000 in
set_option maxRecDepth 100000 in
theorem bC_Fie_markFor_49  {r : Int32} (C : CxS "LineAssembler$Fields" p s m args meth c cC_Fie_markFor 2 (some .int)) (x1 : Int32) (hM : C_Fie_markFor_49  x1 = some r) (ls : Array Slot) (hl : lv_has ls 2 [(1, .int x1)]) : W p l e rm_Fie_markFor s m args below meth c s.heap [] 0 0 (MQ below (QS (some (.int r))) args s 0 0 (fun _ => False)) (F0 m 49 ls []) := by
  have hx := C.1
  have hb := C.2.1
  have hown := C.2.2.2.2.1
  have hT := C.2.2.2.2.2.1
  unfold C_Fie_markFor_49 at hM
  refine lv_iload_n (pc := 49) hx hb dC_Fie_markFor_49 rfl (lv_at hl 0 rfl) ?_
  refine lv_iconst (pc := 50) (v := 2) hx hb dC_Fie_markFor_50 (by decide) ?_
  refine lv_icmp_ne (pc := 51) (tgt := 59) hx hb dC_Fie_markFor_51 (by decide) (fun hc => ?_) (fun hc => ?_)
  · replace hM := it_f hc hM
    refine lv_iload_n (pc := 59) hx hb dC_Fie_markFor_59 rfl (lv_at hl 0 rfl) ?_
    refine lv_iconst (pc := 60) (v := 4) hx hb dC_Fie_markFor_60 (by decide) ?_
    refine lv_icmp_ne (pc := 61) (tgt := 69) hx hb dC_Fie_markFor_61 (by decide) (fun hc => ?_) (fun hc => ?_)
    · replace hM := it_f hc hM
      refine lv_bipush (pc := 69) (v := 106) hx hb dC_Fie_markFor_69 (by decide) ?_
      exact bC_Fie_markFor_71  C  _ hM _ (lv_sub hl [] rfl)
    · replace hM := it_t hc hM
      refine lv_bipush (pc := 64) (v := 116) hx hb dC_Fie_markFor_64 (by decide) ?_
      refine lv_goto (pc := 66) (tgt := 71) hx hb dC_Fie_markFor_66 (by decide) ?_
      exact bC_Fie_markFor_71  C  _ hM _ (lv_sub hl [] rfl)
  · replace hM := it_t hc hM
    refine lv_bipush (pc := 54) (v := 66) hx hb dC_Fie_markFor_54 (by decide) ?_
    refine lv_goto (pc := 56) (tgt := 71) hx hb dC_Fie_markFor_56 (by decide) ?_
    exact bC_Fie_markFor_71  C  _ hM _ (lv_sub hl [] rfl)
def C_Fie_markFor_48 (t0 : Int32) : Option Int32 :=
  some t0
set_option maxHeartbeats 4000000 in
set_option maxRecDepth 100000 in
theorem bC_Fie_markFor_48  {r : Int32} (C : CxS "LineAssembler$Fields" p s m args meth c cC_Fie_markFor 2 (some .int)) (t0 : Int32) (hM : C_Fie_markFor_48  t0 = some r) (ls : Array Slot) (hl : lv_has ls 2 []) : W p l e rm_Fie_markFor s m args below meth c s.heap [] 0 0 (MQ below (QS (some (.int r))) args s 0 0 (fun _ => False)) (F0 m 48 ls [.int t0]) := by
  have hx := C.1
  have hb := C.2.1
  have hown := C.2.2.2.2.1
  have hT := C.2.2.2.2.2.1
  unfold C_Fie_markFor_48 at hM
  obtain rfl := sm_i hM
  exact x_retS (pc := 48) C rfl dC_Fie_markFor_48
def C_Fie_markFor (x0 : Int32) (x1 : Int32) : Option Int32 :=
  (if x0 = (116 : Int32) then C_Fie_markFor_49  x1 else (if x0 = (120 : Int32) then (if x1 = (2 : Int32) then C_Fie_markFor_48  (74 : Int32) else C_Fie_markFor_48  (106 : Int32)) else (if x0 = (122 : Int32) then C_Fie_markFor_49  x1 else some x0)))
set_option maxHeartbeats 4000000 in
set_option maxRecDepth 100000 in
theorem bC_Fie_markFor_0  {r : Int32} (C : CxS "LineAssembler$Fields" p s m args meth c cC_Fie_markFor 2 (some .int)) (x0 : Int32) (x1 : Int32) (hM : C_Fie_markFor  x0 x1 = some r) (ls : Array Slot) (hl : lv_has ls 2 [(0, .int x0), (1, .int x1)]) : W p l e rm_Fie_markFor s m args below meth c s.heap [] 0 0 (MQ below (QS (some (.int r))) args s 0 0 (fun _ => False)) (F0 m 0 ls []) := by
  have hx := C.1
  have hb := C.2.1
  have hown := C.2.2.2.2.1
  have hT := C.2.2.2.2.2.1
  unfold C_Fie_markFor at hM
  refine lv_iload_n (pc := 0) hx hb dC_Fie_markFor_0 rfl (lv_at hl 0 rfl) ?_
  by_cases k1_0 : x0 = (116 : Int32)
  · replace hM := it_t k1_0 hM
    refine lv_lookup (pc := 1) (off := 48) (tgt := 49) hx hb dC_Fie_markFor_1 (by decide) (by rw [k1_0]; decide) (by decide) ?_
    exact bC_Fie_markFor_49  C  _ hM _ (lv_sub hl [1] rfl)
  · replace hM := it_f k1_0 hM
    by_cases k1_1 : x0 = (120 : Int32)
    · replace hM := it_t k1_1 hM
      refine lv_lookup (pc := 1) (off := 35) (tgt := 36) hx hb dC_Fie_markFor_1 (by decide) (by rw [k1_1]; decide) (by decide) ?_
      refine lv_iload_n (pc := 36) hx hb dC_Fie_markFor_36 rfl (lv_at hl 1 rfl) ?_
      refine lv_iconst (pc := 37) (v := 2) hx hb dC_Fie_markFor_37 (by decide) ?_
      refine lv_icmp_ne (pc := 38) (tgt := 46) hx hb dC_Fie_markFor_38 (by decide) (fun hc => ?_) (fun hc => ?_)
      · replace hM := it_f hc hM
        refine lv_bipush (pc := 46) (v := 106) hx hb dC_Fie_markFor_46 (by decide) ?_
        exact bC_Fie_markFor_48  C  _ hM _ (lv_sub hl [] rfl)
      · replace hM := it_t hc hM
        refine lv_bipush (pc := 41) (v := 74) hx hb dC_Fie_markFor_41 (by decide) ?_
        refine lv_goto (pc := 43) (tgt := 48) hx hb dC_Fie_markFor_43 (by decide) ?_
        exact bC_Fie_markFor_48  C  _ hM _ (lv_sub hl [] rfl)
    · replace hM := it_f k1_1 hM
      by_cases k1_2 : x0 = (122 : Int32)
      · replace hM := it_t k1_2 hM
        refine lv_lookup (pc := 1) (off := 48) (tgt := 49) hx hb dC_Fie_markFor_1 (by decide) (by rw [k1_2]; decide) (by decide) ?_
        exact bC_Fie_markFor_49  C  _ hM _ (lv_sub hl [1] rfl)
      · replace hM := it_f k1_2 hM
        refine lv_lookup (pc := 1) (off := 71) (tgt := 72) hx hb dC_Fie_markFor_1 (by decide) (by rw [lv_osw k1_0 (by decide)]; rw [lv_osw k1_1 (by decide)]; rw [lv_osw k1_2 (by decide)]; rfl) (by decide) ?_
        refine lv_iload_n (pc := 72) hx hb dC_Fie_markFor_72 rfl (lv_at hl 0 rfl) ?_
        obtain rfl := sm_i hM
        exact x_retS (pc := 73) C rfl dC_Fie_markFor_73
theorem kC_Fie_markFor (l : Launch) (x0 : Int32) (x1 : Int32) {r : Int32} (hM : C_Fie_markFor x0 x1 = some r) : KS l yC_Fie_markFor cC_Fie_markFor 2 (some .int) rm_Fie_markFor [.int x0, .int x1] (some (.int r)) := x_enterS (by decide +kernel) (Nat.le_of_ble_eq_true rfl) (fun p e s m args below meth c C ls hl => bC_Fie_markFor_0 C x0 x1 hM ls hl)
def C_Fie_fits_439 (t0 : Int32) : Option Int32 :=
  gd (isB t0) (some t0)
set_option maxHeartbeats 4000000 in
set_option maxRecDepth 100000 in
theorem bC_Fie_fits_439  {r : Int32} (C : CxS "LineAssembler$Fields" p s m args meth c cC_Fie_fits 2 (some .boolean)) (t0 : Int32) (hM : C_Fie_fits_439  t0 = some r) (ls : Array Slot) (hl : lv_has ls 2 []) : W p l e rm_Fie_fits s m args below meth c s.heap [] 0 0 (MQ below (QS (some (.int r))) args s 0 0 (fun _ => False)) (F0 m 439 ls [.int t0]) := by
  have hx := C.1
  have hb := C.2.1
  have hown := C.2.2.2.2.1
  have hT := C.2.2.2.2.2.1
  unfold C_Fie_fits_439 at hM
  obtain ⟨hg1, hM⟩ := gd_some hM
  obtain rfl := sm_i hM
  exact x_retSz (pc := 439) C rfl hg1 dC_Fie_fits_439
def C_Fie_fits_438  : Option Int32 :=
  C_Fie_fits_439  (0 : Int32)
set_option maxHeartbeats 4000000 in
set_option maxRecDepth 100000 in
theorem bC_Fie_fits_438  {r : Int32} (C : CxS "LineAssembler$Fields" p s m args meth c cC_Fie_fits 2 (some .boolean))  (hM : C_Fie_fits_438   = some r) (ls : Array Slot) (hl : lv_has ls 2 []) : W p l e rm_Fie_fits s m args below meth c s.heap [] 0 0 (MQ below (QS (some (.int r))) args s 0 0 (fun _ => False)) (F0 m 438 ls []) := by
  have hx := C.1
  have hb := C.2.1
  have hown := C.2.2.2.2.1
  have hT := C.2.2.2.2.2.1
  unfold C_Fie_fits_438 at hM
  refine lv_iconst (pc := 438) (v := 0) hx hb dC_Fie_fits_438 (by decide) ?_
  exact bC_Fie_fits_439  C  _ hM _ (lv_sub hl [] rfl)
def C_Fie_fits_300 (x1 : Int32) : Option Int32 :=
  cr (C_Fie_isWithin  x1 (0 : Int32) (31 : Int32) (1 : Int32)) (fun r1 => gd (isB r1) (some r1))
set_option maxHeartbeats 4000000 in
set_option maxRecDepth 100000 in
theorem bC_Fie_fits_300  {r : Int32} (C : CxS "LineAssembler$Fields" p s m args meth c cC_Fie_fits 2 (some .boolean)) (x1 : Int32) (hM : C_Fie_fits_300  x1 = some r) (ls : Array Slot) (hl : lv_has ls 2 [(1, .int x1)]) : W p l e rm_Fie_fits s m args below meth c s.heap [] 0 0 (MQ below (QS (some (.int r))) args s 0 0 (fun _ => False)) (F0 m 300 ls []) := by
  have hx := C.1
  have hb := C.2.1
  have hown := C.2.2.2.2.1
  have hT := C.2.2.2.2.2.1
  unfold C_Fie_fits_300 at hM
  refine lv_iload_n (pc := 300) hx hb dC_Fie_fits_300 rfl (lv_at hl 0 rfl) ?_
  refine lv_iconst (pc := 301) (v := 0) hx hb dC_Fie_fits_301 (by decide) ?_
  refine lv_bipush (pc := 302) (v := 31) hx hb dC_Fie_fits_302 (by decide) ?_
  refine lv_iconst (pc := 304) (v := 1) hx hb dC_Fie_fits_304 (by decide) ?_
  obtain ⟨r1, hr1, hM⟩ := cr_some hM
  refine x_callU (pc := 305) (ov := some (.int r1)) C (kC_Fie_isWithin l  x1 (0 : Int32) (31 : Int32) (1 : Int32) hr1) qc_1246 qc_1244 qc_1245 qc_35 ⟨by decide, by decide, by decide +kernel⟩ ⟨rfl, rfl⟩ ⟨Nat.le_of_ble_eq_true rfl, Nat.le_of_ble_eq_true rfl⟩ ⟨Nat.le_refl _, Nat.le_refl _⟩ (As := [.int x1, .int (0 : Int32), .int (31 : Int32), .int (1 : Int32)]) (n := 4) rfl hl.1 rfl (Nat.le_of_ble_eq_true rfl) dC_Fie_fits_305 ?_
  obtain ⟨hg2, hM⟩ := gd_some hM
  obtain rfl := sm_i hM
  exact x_retSz (pc := 308) C rfl hg2 dC_Fie_fits_308
def C_Fie_fits_440 (x1 : Int32) : Option Int32 :=
  cr (C_Fie_isWithin  x1 (0 : Int32) (252 : Int32) (4 : Int32)) (fun r1 => gd (isB r1) (some r1))
set_option maxHeartbeats 4000000 in
set_option maxRecDepth 100000 in
theorem bC_Fie_fits_440  {r : Int32} (C : CxS "LineAssembler$Fields" p s m args meth c cC_Fie_fits 2 (some .boolean)) (x1 : Int32) (hM : C_Fie_fits_440  x1 = some r) (ls : Array Slot) (hl : lv_has ls 2 [(1, .int x1)]) : W p l e rm_Fie_fits s m args below meth c s.heap [] 0 0 (MQ below (QS (some (.int r))) args s 0 0 (fun _ => False)) (F0 m 440 ls []) := by
  have hx := C.1
  have hb := C.2.1
  have hown := C.2.2.2.2.1
  have hT := C.2.2.2.2.2.1
  unfold C_Fie_fits_440 at hM
  refine lv_iload_n (pc := 440) hx hb dC_Fie_fits_440 rfl (lv_at hl 0 rfl) ?_
  refine lv_iconst (pc := 441) (v := 0) hx hb dC_Fie_fits_441 (by decide) ?_
  refine lv_sipush (pc := 442) (v := 252) hx hb dC_Fie_fits_442 (by decide) ?_
  refine lv_iconst (pc := 445) (v := 4) hx hb dC_Fie_fits_445 (by decide) ?_
  obtain ⟨r1, hr1, hM⟩ := cr_some hM
  refine x_callU (pc := 446) (ov := some (.int r1)) C (kC_Fie_isWithin l  x1 (0 : Int32) (252 : Int32) (4 : Int32) hr1) qc_1246 qc_1244 qc_1245 qc_35 ⟨by decide, by decide, by decide +kernel⟩ ⟨rfl, rfl⟩ ⟨Nat.le_of_ble_eq_true rfl, Nat.le_of_ble_eq_true rfl⟩ ⟨Nat.le_refl _, Nat.le_refl _⟩ (As := [.int x1, .int (0 : Int32), .int (252 : Int32), .int (4 : Int32)]) (n := 4) rfl hl.1 rfl (Nat.le_of_ble_eq_true rfl) dC_Fie_fits_446 ?_
  obtain ⟨hg2, hM⟩ := gd_some hM
  obtain rfl := sm_i hM
  exact x_retSz (pc := 449) C rfl hg2 dC_Fie_fits_449
def C_Fie_fits_395 (t0 : Int32) : Option Int32 :=
  gd (isB t0) (some t0)
set_option maxHeartbeats 4000000 in
set_option maxRecDepth 100000 in
theorem bC_Fie_fits_395  {r : Int32} (C : CxS "LineAssembler$Fields" p s m args meth c cC_Fie_fits 2 (some .boolean)) (t0 : Int32) (hM : C_Fie_fits_395  t0 = some r) (ls : Array Slot) (hl : lv_has ls 2 []) : W p l e rm_Fie_fits s m args below meth c s.heap [] 0 0 (MQ below (QS (some (.int r))) args s 0 0 (fun _ => False)) (F0 m 395 ls [.int t0]) := by
  have hx := C.1
  have hb := C.2.1
  have hown := C.2.2.2.2.1
  have hT := C.2.2.2.2.2.1
  unfold C_Fie_fits_395 at hM
  obtain ⟨hg1, hM⟩ := gd_some hM
  obtain rfl := sm_i hM
  exact x_retSz (pc := 395) C rfl hg1 dC_Fie_fits_395
def C_Fie_fits_394  : Option Int32 :=
  C_Fie_fits_395  (0 : Int32)
set_option maxHeartbeats 4000000 in
set_option maxRecDepth 100000 in
theorem bC_Fie_fits_394  {r : Int32} (C : CxS "LineAssembler$Fields" p s m args meth c cC_Fie_fits 2 (some .boolean))  (hM : C_Fie_fits_394   = some r) (ls : Array Slot) (hl : lv_has ls 2 []) : W p l e rm_Fie_fits s m args below meth c s.heap [] 0 0 (MQ below (QS (some (.int r))) args s 0 0 (fun _ => False)) (F0 m 394 ls []) := by
  have hx := C.1
  have hb := C.2.1
  have hown := C.2.2.2.2.1
  have hT := C.2.2.2.2.2.1
  unfold C_Fie_fits_394 at hM
  refine lv_iconst (pc := 394) (v := 0) hx hb dC_Fie_fits_394 (by decide) ?_
  exact bC_Fie_fits_395  C  _ hM _ (lv_sub hl [] rfl)
def C_Fie_fits_288 (x1 : Int32) : Option Int32 :=
  cr (C_Fie_isWithin  x1 (-2048 : Int32) (2047 : Int32) (1 : Int32)) (fun r1 => gd (isB r1) (some r1))
set_option maxHeartbeats 4000000 in
set_option maxRecDepth 100000 in
theorem bC_Fie_fits_288  {r : Int32} (C : CxS "LineAssembler$Fields" p s m args meth c cC_Fie_fits 2 (some .boolean)) (x1 : Int32) (hM : C_Fie_fits_288  x1 = some r) (ls : Array Slot) (hl : lv_has ls 2 [(1, .int x1)]) : W p l e rm_Fie_fits s m args below meth c s.heap [] 0 0 (MQ below (QS (some (.int r))) args s 0 0 (fun _ => False)) (F0 m 288 ls []) := by
  have hx := C.1
  have hb := C.2.1
  have hown := C.2.2.2.2.1
  have hT := C.2.2.2.2.2.1
  unfold C_Fie_fits_288 at hM
  refine lv_iload_n (pc := 288) hx hb dC_Fie_fits_288 rfl (lv_at hl 0 rfl) ?_
  refine lv_sipush (pc := 289) (v := -2048) hx hb dC_Fie_fits_289 (by decide) ?_
  refine lv_sipush (pc := 292) (v := 2047) hx hb dC_Fie_fits_292 (by decide) ?_
  refine lv_iconst (pc := 295) (v := 1) hx hb dC_Fie_fits_295 (by decide) ?_
  obtain ⟨r1, hr1, hM⟩ := cr_some hM
  refine x_callU (pc := 296) (ov := some (.int r1)) C (kC_Fie_isWithin l  x1 (-2048 : Int32) (2047 : Int32) (1 : Int32) hr1) qc_1246 qc_1244 qc_1245 qc_35 ⟨by decide, by decide, by decide +kernel⟩ ⟨rfl, rfl⟩ ⟨Nat.le_of_ble_eq_true rfl, Nat.le_of_ble_eq_true rfl⟩ ⟨Nat.le_refl _, Nat.le_refl _⟩ (As := [.int x1, .int (-2048 : Int32), .int (2047 : Int32), .int (1 : Int32)]) (n := 4) rfl hl.1 rfl (Nat.le_of_ble_eq_true rfl) dC_Fie_fits_296 ?_
  obtain ⟨hg2, hM⟩ := gd_some hM
  obtain rfl := sm_i hM
  exact x_retSz (pc := 299) C rfl hg2 dC_Fie_fits_299
def C_Fie_fits (x0 : Int32) (x1 : Int32) : Option Int32 :=
  (if x0 = (52 : Int32) then cr (C_Fie_isWithin  x1 (4 : Int32) (1020 : Int32) (4 : Int32)) (fun r2 => gd (isB r2) (some r2)) else (if x0 = (54 : Int32) then cr (C_Fie_isWithin  x1 (-512 : Int32) (496 : Int32) (16 : Int32)) (fun r4 => (if r4 = 0 then C_Fie_fits_438   else (if x1 = 0 then C_Fie_fits_438   else C_Fie_fits_439  (1 : Int32)))) else (if x0 = (66 : Int32) then cr (C_Fie_isWithin  x1 (-256 : Int32) (254 : Int32) (2 : Int32)) (fun r5 => gd (isB r5) (some r5)) else (if x0 = (72 : Int32) then C_Fie_fits_300  x1 else (if x0 = (74 : Int32) then cr (C_Fie_isWithin  x1 (-2048 : Int32) (2046 : Int32) (2 : Int32)) (fun r7 => gd (isB r7) (some r7)) else (if x0 = (76 : Int32) then C_Fie_fits_440  x1 else (if x0 = (78 : Int32) then cr (C_Fie_isWithin  x1 (-32 : Int32) (31 : Int32) (1 : Int32)) (fun r9 => gd (isB r9) (some r9)) else (if x0 = (83 : Int32) then C_Fie_fits_440  x1 else (if x0 = (85 : Int32) then cr (C_Fie_isWithin  x1 (-32 : Int32) (31 : Int32) (1 : Int32)) (fun r11 => (if r11 = 0 then C_Fie_fits_394   else (if x1 = 0 then C_Fie_fits_394   else C_Fie_fits_395  (1 : Int32)))) else (if x0 = (104 : Int32) then C_Fie_fits_300  x1 else (if x0 = (105 : Int32) then C_Fie_fits_288  x1 else (if x0 = (106 : Int32) then cr (C_Fie_isWithin  x1 (-1048576 : Int32) (1048574 : Int32) (2 : Int32)) (fun r12 => gd (isB r12) (some r12)) else (if x0 = (111 : Int32) then C_Fie_fits_288  x1 else (if x0 = (116 : Int32) then cr (C_Fie_isWithin  x1 (-4096 : Int32) (4094 : Int32) (2 : Int32)) (fun r14 => gd (isB r14) (some r14)) else (if x0 = (117 : Int32) then cr (C_Fie_isWithin  x1 (0 : Int32) (1048575 : Int32) (1 : Int32)) (fun r16 => gd (isB r16) (some r16)) else (if x0 = (119 : Int32) then cr (C_Fie_isWithin  x1 (0 : Int32) (124 : Int32) (4 : Int32)) (fun r18 => gd (isB r18) (some r18)) else some (1 : Int32)))))))))))))))))
set_option maxHeartbeats 4000000 in
set_option maxRecDepth 100000 in
theorem bC_Fie_fits_0  {r : Int32} (C : CxS "LineAssembler$Fields" p s m args meth c cC_Fie_fits 2 (some .boolean)) (x0 : Int32) (x1 : Int32) (hM : C_Fie_fits  x0 x1 = some r) (ls : Array Slot) (hl : lv_has ls 2 [(0, .int x0), (1, .int x1)]) : W p l e rm_Fie_fits s m args below meth c s.heap [] 0 0 (MQ below (QS (some (.int r))) args s 0 0 (fun _ => False)) (F0 m 0 ls []) := by
  have hx := C.1
  have hb := C.2.1
  have hown := C.2.2.2.2.1
  have hT := C.2.2.2.2.2.1
  unfold C_Fie_fits at hM
  refine lv_iload_n (pc := 0) hx hb dC_Fie_fits_0 rfl (lv_at hl 0 rfl) ?_
  by_cases k1_0 : x0 = (52 : Int32)
  · replace hM := it_t k1_0 hM
    refine lv_tableIn (pc := 1) (off := 395) (tgt := 396) hx hb dC_Fie_fits_1 (by rw [k1_0]; decide) (by rw [k1_0]; decide) (by rw [k1_0]; decide) (by decide) ?_
    refine lv_iload_n (pc := 396) hx hb dC_Fie_fits_396 rfl (lv_at hl 1 rfl) ?_
    refine lv_iconst (pc := 397) (v := 4) hx hb dC_Fie_fits_397 (by decide) ?_
    refine lv_sipush (pc := 398) (v := 1020) hx hb dC_Fie_fits_398 (by decide) ?_
    refine lv_iconst (pc := 401) (v := 4) hx hb dC_Fie_fits_401 (by decide) ?_
    obtain ⟨r2, hr2, hM⟩ := cr_some hM
    refine x_callU (pc := 402) (ov := some (.int r2)) C (kC_Fie_isWithin l  x1 (4 : Int32) (1020 : Int32) (4 : Int32) hr2) qc_1246 qc_1244 qc_1245 qc_35 ⟨by decide, by decide, by decide +kernel⟩ ⟨rfl, rfl⟩ ⟨Nat.le_of_ble_eq_true rfl, Nat.le_of_ble_eq_true rfl⟩ ⟨Nat.le_refl _, Nat.le_refl _⟩ (As := [.int x1, .int (4 : Int32), .int (1020 : Int32), .int (4 : Int32)]) (n := 4) rfl hl.1 rfl (Nat.le_of_ble_eq_true rfl) dC_Fie_fits_402 ?_
    obtain ⟨hg3, hM⟩ := gd_some hM
    obtain rfl := sm_i hM
    exact x_retSz (pc := 405) C rfl hg3 dC_Fie_fits_405
  · replace hM := it_f k1_0 hM
    by_cases k1_1 : x0 = (54 : Int32)
    · replace hM := it_t k1_1 hM
      refine lv_tableIn (pc := 1) (off := 414) (tgt := 415) hx hb dC_Fie_fits_1 (by rw [k1_1]; decide) (by rw [k1_1]; decide) (by rw [k1_1]; decide) (by decide) ?_
      refine lv_iload_n (pc := 415) hx hb dC_Fie_fits_415 rfl (lv_at hl 1 rfl) ?_
      refine lv_sipush (pc := 416) (v := -512) hx hb dC_Fie_fits_416 (by decide) ?_
      refine lv_sipush (pc := 419) (v := 496) hx hb dC_Fie_fits_419 (by decide) ?_
      refine lv_bipush (pc := 422) (v := 16) hx hb dC_Fie_fits_422 (by decide) ?_
      obtain ⟨r4, hr4, hM⟩ := cr_some hM
      refine x_callU (pc := 424) (ov := some (.int r4)) C (kC_Fie_isWithin l  x1 (-512 : Int32) (496 : Int32) (16 : Int32) hr4) qc_1246 qc_1244 qc_1245 qc_35 ⟨by decide, by decide, by decide +kernel⟩ ⟨rfl, rfl⟩ ⟨Nat.le_of_ble_eq_true rfl, Nat.le_of_ble_eq_true rfl⟩ ⟨Nat.le_refl _, Nat.le_refl _⟩ (As := [.int x1, .int (-512 : Int32), .int (496 : Int32), .int (16 : Int32)]) (n := 4) rfl hl.1 rfl (Nat.le_of_ble_eq_true rfl) dC_Fie_fits_424 ?_
      refine lv_if_eq (pc := 427) (tgt := 438) hx hb dC_Fie_fits_427 (by decide) (fun hc => ?_) (fun hc => ?_)
      · replace hM := it_t hc hM
        exact bC_Fie_fits_438  C   hM _ (lv_sub hl [] rfl)
      · replace hM := it_f hc hM
        refine lv_iload_n (pc := 430) hx hb dC_Fie_fits_430 rfl (lv_at hl 1 rfl) ?_
        refine lv_if_eq (pc := 431) (tgt := 438) hx hb dC_Fie_fits_431 (by decide) (fun hc => ?_) (fun hc => ?_)
        · replace hM := it_t hc hM
          exact bC_Fie_fits_438  C   hM _ (lv_sub hl [] rfl)
        · replace hM := it_f hc hM
          refine lv_iconst (pc := 434) (v := 1) hx hb dC_Fie_fits_434 (by decide) ?_
          refine lv_goto (pc := 435) (tgt := 439) hx hb dC_Fie_fits_435 (by decide) ?_
          exact bC_Fie_fits_439  C  _ hM _ (lv_sub hl [] rfl)
    · replace hM := it_f k1_1 hM
      by_cases k1_2 : x0 = (66 : Int32)
      · replace hM := it_t k1_2 hM
        refine lv_tableIn (pc := 1) (off := 351) (tgt := 352) hx hb dC_Fie_fits_1 (by rw [k1_2]; decide) (by rw [k1_2]; decide) (by rw [k1_2]; decide) (by decide) ?_
        refine lv_iload_n (pc := 352) hx hb dC_Fie_fits_352 rfl (lv_at hl 1 rfl) ?_
        refine lv_sipush (pc := 353) (v := -256) hx hb dC_Fie_fits_353 (by decide) ?_
        refine lv_sipush (pc := 356) (v := 254) hx hb dC_Fie_fits_356 (by decide) ?_
        refine lv_iconst (pc := 359) (v := 2) hx hb dC_Fie_fits_359 (by decide) ?_
        obtain ⟨r5, hr5, hM⟩ := cr_some hM
        refine x_callU (pc := 360) (ov := some (.int r5)) C (kC_Fie_isWithin l  x1 (-256 : Int32) (254 : Int32) (2 : Int32) hr5) qc_1246 qc_1244 qc_1245 qc_35 ⟨by decide, by decide, by decide +kernel⟩ ⟨rfl, rfl⟩ ⟨Nat.le_of_ble_eq_true rfl, Nat.le_of_ble_eq_true rfl⟩ ⟨Nat.le_refl _, Nat.le_refl _⟩ (As := [.int x1, .int (-256 : Int32), .int (254 : Int32), .int (2 : Int32)]) (n := 4) rfl hl.1 rfl (Nat.le_of_ble_eq_true rfl) dC_Fie_fits_360 ?_
        obtain ⟨hg6, hM⟩ := gd_some hM
        obtain rfl := sm_i hM
        exact x_retSz (pc := 363) C rfl hg6 dC_Fie_fits_363
      · replace hM := it_f k1_2 hM
        by_cases k1_3 : x0 = (72 : Int32)
        · replace hM := it_t k1_3 hM
          refine lv_tableIn (pc := 1) (off := 299) (tgt := 300) hx hb dC_Fie_fits_1 (by rw [k1_3]; decide) (by rw [k1_3]; decide) (by rw [k1_3]; decide) (by decide) ?_
          exact bC_Fie_fits_300  C  _ hM _ (lv_sub hl [1] rfl)
        · replace hM := it_f k1_3 hM
          by_cases k1_4 : x0 = (74 : Int32)
          · replace hM := it_t k1_4 hM
            refine lv_tableIn (pc := 1) (off := 339) (tgt := 340) hx hb dC_Fie_fits_1 (by rw [k1_4]; decide) (by rw [k1_4]; decide) (by rw [k1_4]; decide) (by decide) ?_
            refine lv_iload_n (pc := 340) hx hb dC_Fie_fits_340 rfl (lv_at hl 1 rfl) ?_
            refine lv_sipush (pc := 341) (v := -2048) hx hb dC_Fie_fits_341 (by decide) ?_
            refine lv_sipush (pc := 344) (v := 2046) hx hb dC_Fie_fits_344 (by decide) ?_
            refine lv_iconst (pc := 347) (v := 2) hx hb dC_Fie_fits_347 (by decide) ?_
            obtain ⟨r7, hr7, hM⟩ := cr_some hM
            refine x_callU (pc := 348) (ov := some (.int r7)) C (kC_Fie_isWithin l  x1 (-2048 : Int32) (2046 : Int32) (2 : Int32) hr7) qc_1246 qc_1244 qc_1245 qc_35 ⟨by decide, by decide, by decide +kernel⟩ ⟨rfl, rfl⟩ ⟨Nat.le_of_ble_eq_true rfl, Nat.le_of_ble_eq_true rfl⟩ ⟨Nat.le_refl _, Nat.le_refl _⟩ (As := [.int x1, .int (-2048 : Int32), .int (2046 : Int32), .int (2 : Int32)]) (n := 4) rfl hl.1 rfl (Nat.le_of_ble_eq_true rfl) dC_Fie_fits_348 ?_
            obtain ⟨hg8, hM⟩ := gd_some hM
            obtain rfl := sm_i hM
            exact x_retSz (pc := 351) C rfl hg8 dC_Fie_fits_351
          · replace hM := it_f k1_4 hM
            by_cases k1_5 : x0 = (76 : Int32)
            · replace hM := it_t k1_5 hM
              refine lv_tableIn (pc := 1) (off := 439) (tgt := 440) hx hb dC_Fie_fits_1 (by rw [k1_5]; decide) (by rw [k1_5]; decide) (by rw [k1_5]; decide) (by decide) ?_
              exact bC_Fie_fits_440  C  _ hM _ (lv_sub hl [1] rfl)
            · replace hM := it_f k1_5 hM
              by_cases k1_6 : x0 = (78 : Int32)
              · replace hM := it_t k1_6 hM
                refine lv_tableIn (pc := 1) (off := 363) (tgt := 364) hx hb dC_Fie_fits_1 (by rw [k1_6]; decide) (by rw [k1_6]; decide) (by rw [k1_6]; decide) (by decide) ?_
                refine lv_iload_n (pc := 364) hx hb dC_Fie_fits_364 rfl (lv_at hl 1 rfl) ?_
                refine lv_bipush (pc := 365) (v := -32) hx hb dC_Fie_fits_365 (by decide) ?_
                refine lv_bipush (pc := 367) (v := 31) hx hb dC_Fie_fits_367 (by decide) ?_
                refine lv_iconst (pc := 369) (v := 1) hx hb dC_Fie_fits_369 (by decide) ?_
                obtain ⟨r9, hr9, hM⟩ := cr_some hM
                refine x_callU (pc := 370) (ov := some (.int r9)) C (kC_Fie_isWithin l  x1 (-32 : Int32) (31 : Int32) (1 : Int32) hr9) qc_1246 qc_1244 qc_1245 qc_35 ⟨by decide, by decide, by decide +kernel⟩ ⟨rfl, rfl⟩ ⟨Nat.le_of_ble_eq_true rfl, Nat.le_of_ble_eq_true rfl⟩ ⟨Nat.le_refl _, Nat.le_refl _⟩ (As := [.int x1, .int (-32 : Int32), .int (31 : Int32), .int (1 : Int32)]) (n := 4) rfl hl.1 rfl (Nat.le_of_ble_eq_true rfl) dC_Fie_fits_370 ?_
                obtain ⟨hg10, hM⟩ := gd_some hM
                obtain rfl := sm_i hM
                exact x_retSz (pc := 373) C rfl hg10 dC_Fie_fits_373
              · replace hM := it_f k1_6 hM
                by_cases k1_7 : x0 = (83 : Int32)
                · replace hM := it_t k1_7 hM
                  refine lv_tableIn (pc := 1) (off := 439) (tgt := 440) hx hb dC_Fie_fits_1 (by rw [k1_7]; decide) (by rw [k1_7]; decide) (by rw [k1_7]; decide) (by decide) ?_
                  exact bC_Fie_fits_440  C  _ hM _ (lv_sub hl [1] rfl)
                · replace hM := it_f k1_7 hM
                  by_cases k1_8 : x0 = (85 : Int32)
                  · replace hM := it_t k1_8 hM
                    refine lv_tableIn (pc := 1) (off := 373) (tgt := 374) hx hb dC_Fie_fits_1 (by rw [k1_8]; decide) (by rw [k1_8]; decide) (by rw [k1_8]; decide) (by decide) ?_
                    refine lv_iload_n (pc := 374) hx hb dC_Fie_fits_374 rfl (lv_at hl 1 rfl) ?_
                    refine lv_bipush (pc := 375) (v := -32) hx hb dC_Fie_fits_375 (by decide) ?_
                    refine lv_bipush (pc := 377) (v := 31) hx hb dC_Fie_fits_377 (by decide) ?_
                    refine lv_iconst (pc := 379) (v := 1) hx hb dC_Fie_fits_379 (by decide) ?_
                    obtain ⟨r11, hr11, hM⟩ := cr_some hM
                    refine x_callU (pc := 380) (ov := some (.int r11)) C (kC_Fie_isWithin l  x1 (-32 : Int32) (31 : Int32) (1 : Int32) hr11) qc_1246 qc_1244 qc_1245 qc_35 ⟨by decide, by decide, by decide +kernel⟩ ⟨rfl, rfl⟩ ⟨Nat.le_of_ble_eq_true rfl, Nat.le_of_ble_eq_true rfl⟩ ⟨Nat.le_refl _, Nat.le_refl _⟩ (As := [.int x1, .int (-32 : Int32), .int (31 : Int32), .int (1 : Int32)]) (n := 4) rfl hl.1 rfl (Nat.le_of_ble_eq_true rfl) dC_Fie_fits_380 ?_
                    refine lv_if_eq (pc := 383) (tgt := 394) hx hb dC_Fie_fits_383 (by decide) (fun hc => ?_) (fun hc => ?_)
                    · replace hM := it_t hc hM
                      exact bC_Fie_fits_394  C   hM _ (lv_sub hl [] rfl)
                    · replace hM := it_f hc hM
                      refine lv_iload_n (pc := 386) hx hb dC_Fie_fits_386 rfl (lv_at hl 1 rfl) ?_
                      refine lv_if_eq (pc := 387) (tgt := 394) hx hb dC_Fie_fits_387 (by decide) (fun hc => ?_) (fun hc => ?_)
                      · replace hM := it_t hc hM
                        exact bC_Fie_fits_394  C   hM _ (lv_sub hl [] rfl)
                      · replace hM := it_f hc hM
                        refine lv_iconst (pc := 390) (v := 1) hx hb dC_Fie_fits_390 (by decide) ?_
                        refine lv_goto (pc := 391) (tgt := 395) hx hb dC_Fie_fits_391 (by decide) ?_
                        exact bC_Fie_fits_395  C  _ hM _ (lv_sub hl [] rfl)
                  · replace hM := it_f k1_8 hM
                    by_cases k1_9 : x0 = (104 : Int32)
                    · replace hM := it_t k1_9 hM
                      refine lv_tableIn (pc := 1) (off := 299) (tgt := 300) hx hb dC_Fie_fits_1 (by rw [k1_9]; decide) (by rw [k1_9]; decide) (by rw [k1_9]; decide) (by decide) ?_
                      exact bC_Fie_fits_300  C  _ hM _ (lv_sub hl [1] rfl)
                    · replace hM := it_f k1_9 hM
                      by_cases k1_10 : x0 = (105 : Int32)
                      · replace hM := it_t k1_10 hM
                        refine lv_tableIn (pc := 1) (off := 287) (tgt := 288) hx hb dC_Fie_fits_1 (by rw [k1_10]; decide) (by rw [k1_10]; decide) (by rw [k1_10]; decide) (by decide) ?_
                        exact bC_Fie_fits_288  C  _ hM _ (lv_sub hl [1] rfl)
                      · replace hM := it_f k1_10 hM
                        by_cases k1_11 : x0 = (106 : Int32)
                        · replace hM := it_t k1_11 hM
                          refine lv_tableIn (pc := 1) (off := 329) (tgt := 330) hx hb dC_Fie_fits_1 (by rw [k1_11]; decide) (by rw [k1_11]; decide) (by rw [k1_11]; decide) (by decide) ?_
                          refine lv_iload_n (pc := 330) hx hb dC_Fie_fits_330 rfl (lv_at hl 1 rfl) ?_
                          refine lv_ldc (pc := 331) (v := -1048576) hx hb hown (hT _ qc_1248) dC_Fie_fits_331 ?_
                          refine lv_ldc (pc := 333) (v := 1048574) hx hb hown (hT _ qc_1249) dC_Fie_fits_333 ?_
                          refine lv_iconst (pc := 335) (v := 2) hx hb dC_Fie_fits_335 (by decide) ?_
                          obtain ⟨r12, hr12, hM⟩ := cr_some hM
                          refine x_callU (pc := 336) (ov := some (.int r12)) C (kC_Fie_isWithin l  x1 (-1048576 : Int32) (1048574 : Int32) (2 : Int32) hr12) qc_1246 qc_1244 qc_1245 qc_35 ⟨by decide, by decide, by decide +kernel⟩ ⟨rfl, rfl⟩ ⟨Nat.le_of_ble_eq_true rfl, Nat.le_of_ble_eq_true rfl⟩ ⟨Nat.le_refl _, Nat.le_refl _⟩ (As := [.int x1, .int (-1048576 : Int32), .int (1048574 : Int32), .int (2 : Int32)]) (n := 4) rfl hl.1 rfl (Nat.le_of_ble_eq_true rfl) dC_Fie_fits_336 ?_
                          obtain ⟨hg13, hM⟩ := gd_some hM
                          obtain rfl := sm_i hM
                          exact x_retSz (pc := 339) C rfl hg13 dC_Fie_fits_339
                        · replace hM := it_f k1_11 hM
                          by_cases k1_12 : x0 = (111 : Int32)
                          · replace hM := it_t k1_12 hM
                            refine lv_tableIn (pc := 1) (off := 287) (tgt := 288) hx hb dC_Fie_fits_1 (by rw [k1_12]; decide) (by rw [k1_12]; decide) (by rw [k1_12]; decide) (by decide) ?_
                            exact bC_Fie_fits_288  C  _ hM _ (lv_sub hl [1] rfl)
                          · replace hM := it_f k1_12 hM
                            by_cases k1_13 : x0 = (116 : Int32)
                            · replace hM := it_t k1_13 hM
                              refine lv_tableIn (pc := 1) (off := 317) (tgt := 318) hx hb dC_Fie_fits_1 (by rw [k1_13]; decide) (by rw [k1_13]; decide) (by rw [k1_13]; decide) (by decide) ?_
                              refine lv_iload_n (pc := 318) hx hb dC_Fie_fits_318 rfl (lv_at hl 1 rfl) ?_
                              refine lv_sipush (pc := 319) (v := -4096) hx hb dC_Fie_fits_319 (by decide) ?_
                              refine lv_sipush (pc := 322) (v := 4094) hx hb dC_Fie_fits_322 (by decide) ?_
                              refine lv_iconst (pc := 325) (v := 2) hx hb dC_Fie_fits_325 (by decide) ?_
                              obtain ⟨r14, hr14, hM⟩ := cr_some hM
                              refine x_callU (pc := 326) (ov := some (.int r14)) C (kC_Fie_isWithin l  x1 (-4096 : Int32) (4094 : Int32) (2 : Int32) hr14) qc_1246 qc_1244 qc_1245 qc_35 ⟨by decide, by decide, by decide +kernel⟩ ⟨rfl, rfl⟩ ⟨Nat.le_of_ble_eq_true rfl, Nat.le_of_ble_eq_true rfl⟩ ⟨Nat.le_refl _, Nat.le_refl _⟩ (As := [.int x1, .int (-4096 : Int32), .int (4094 : Int32), .int (2 : Int32)]) (n := 4) rfl hl.1 rfl (Nat.le_of_ble_eq_true rfl) dC_Fie_fits_326 ?_
                              obtain ⟨hg15, hM⟩ := gd_some hM
                              obtain rfl := sm_i hM
                              exact x_retSz (pc := 329) C rfl hg15 dC_Fie_fits_329
                            · replace hM := it_f k1_13 hM
                              by_cases k1_14 : x0 = (117 : Int32)
                              · replace hM := it_t k1_14 hM
                                refine lv_tableIn (pc := 1) (off := 308) (tgt := 309) hx hb dC_Fie_fits_1 (by rw [k1_14]; decide) (by rw [k1_14]; decide) (by rw [k1_14]; decide) (by decide) ?_
                                refine lv_iload_n (pc := 309) hx hb dC_Fie_fits_309 rfl (lv_at hl 1 rfl) ?_
                                refine lv_iconst (pc := 310) (v := 0) hx hb dC_Fie_fits_310 (by decide) ?_
                                refine lv_ldc (pc := 311) (v := 1048575) hx hb hown (hT _ qc_1247) dC_Fie_fits_311 ?_
                                refine lv_iconst (pc := 313) (v := 1) hx hb dC_Fie_fits_313 (by decide) ?_
                                obtain ⟨r16, hr16, hM⟩ := cr_some hM
                                refine x_callU (pc := 314) (ov := some (.int r16)) C (kC_Fie_isWithin l  x1 (0 : Int32) (1048575 : Int32) (1 : Int32) hr16) qc_1246 qc_1244 qc_1245 qc_35 ⟨by decide, by decide, by decide +kernel⟩ ⟨rfl, rfl⟩ ⟨Nat.le_of_ble_eq_true rfl, Nat.le_of_ble_eq_true rfl⟩ ⟨Nat.le_refl _, Nat.le_refl _⟩ (As := [.int x1, .int (0 : Int32), .int (1048575 : Int32), .int (1 : Int32)]) (n := 4) rfl hl.1 rfl (Nat.le_of_ble_eq_true rfl) dC_Fie_fits_314 ?_
                                obtain ⟨hg17, hM⟩ := gd_some hM
                                obtain rfl := sm_i hM
                                exact x_retSz (pc := 317) C rfl hg17 dC_Fie_fits_317
                              · replace hM := it_f k1_14 hM
                                by_cases k1_15 : x0 = (119 : Int32)
                                · replace hM := it_t k1_15 hM
                                  refine lv_tableIn (pc := 1) (off := 405) (tgt := 406) hx hb dC_Fie_fits_1 (by rw [k1_15]; decide) (by rw [k1_15]; decide) (by rw [k1_15]; decide) (by decide) ?_
                                  refine lv_iload_n (pc := 406) hx hb dC_Fie_fits_406 rfl (lv_at hl 1 rfl) ?_
                                  refine lv_iconst (pc := 407) (v := 0) hx hb dC_Fie_fits_407 (by decide) ?_
                                  refine lv_bipush (pc := 408) (v := 124) hx hb dC_Fie_fits_408 (by decide) ?_
                                  refine lv_iconst (pc := 410) (v := 4) hx hb dC_Fie_fits_410 (by decide) ?_
                                  obtain ⟨r18, hr18, hM⟩ := cr_some hM
                                  refine x_callU (pc := 411) (ov := some (.int r18)) C (kC_Fie_isWithin l  x1 (0 : Int32) (124 : Int32) (4 : Int32) hr18) qc_1246 qc_1244 qc_1245 qc_35 ⟨by decide, by decide, by decide +kernel⟩ ⟨rfl, rfl⟩ ⟨Nat.le_of_ble_eq_true rfl, Nat.le_of_ble_eq_true rfl⟩ ⟨Nat.le_refl _, Nat.le_refl _⟩ (As := [.int x1, .int (0 : Int32), .int (124 : Int32), .int (4 : Int32)]) (n := 4) rfl hl.1 rfl (Nat.le_of_ble_eq_true rfl) dC_Fie_fits_411 ?_
                                  obtain ⟨hg19, hM⟩ := gd_some hM
                                  obtain rfl := sm_i hM
                                  exact x_retSz (pc := 414) C rfl hg19 dC_Fie_fits_414
                                · replace hM := it_f k1_15 hM
                                  by_cases k1_o : x0.toInt < 52 ∨ 119 < x0.toInt
                                  · refine lv_tableOut (pc := 1) (tgt := 450) hx hb dC_Fie_fits_1 k1_o (by decide) ?_
                                    refine lv_iconst (pc := 450) (v := 1) hx hb dC_Fie_fits_450 (by decide) ?_
                                    obtain rfl := sm_i hM
                                    exact x_retSz (pc := 451) C rfl (by decide) dC_Fie_fits_451
                                  · refine lv_tableIn (pc := 1) (off := 449) (tgt := 450) hx hb dC_Fie_fits_1 (fun z => k1_o (Or.inl z)) (fun z => k1_o (Or.inr z)) (lv_tdef 68 [(52 : Int32), (54 : Int32), (66 : Int32), (72 : Int32), (74 : Int32), (76 : Int32), (78 : Int32), (83 : Int32), (85 : Int32), (104 : Int32), (105 : Int32), (106 : Int32), (111 : Int32), (116 : Int32), (117 : Int32), (119 : Int32)] (fun z => k1_o (Or.inl z)) (fun z => k1_o (Or.inr z)) (List.forall_mem_cons.mpr ⟨k1_0, (List.forall_mem_cons.mpr ⟨k1_1, (List.forall_mem_cons.mpr ⟨k1_2, (List.forall_mem_cons.mpr ⟨k1_3, (List.forall_mem_cons.mpr ⟨k1_4, (List.forall_mem_cons.mpr ⟨k1_5, (List.forall_mem_cons.mpr ⟨k1_6, (List.forall_mem_cons.mpr ⟨k1_7, (List.forall_mem_cons.mpr ⟨k1_8, (List.forall_mem_cons.mpr ⟨k1_9, (List.forall_mem_cons.mpr ⟨k1_10, (List.forall_mem_cons.mpr ⟨k1_11, (List.forall_mem_cons.mpr ⟨k1_12, (List.forall_mem_cons.mpr ⟨k1_13, (List.forall_mem_cons.mpr ⟨k1_14, (List.forall_mem_cons.mpr ⟨k1_15, (fun _ h => by cases h)⟩)⟩)⟩)⟩)⟩)⟩)⟩)⟩)⟩)⟩)⟩)⟩)⟩)⟩)⟩)⟩) (by decide) (by decide +kernel)) (by decide) ?_
                                    refine lv_iconst (pc := 450) (v := 1) hx hb dC_Fie_fits_450 (by decide) ?_
                                    obtain rfl := sm_i hM
                                    exact x_retSz (pc := 451) C rfl (by decide) dC_Fie_fits_451
theorem kC_Fie_fits (l : Launch) (x0 : Int32) (x1 : Int32) {r : Int32} (hM : C_Fie_fits x0 x1 = some r) : KS l yC_Fie_fits cC_Fie_fits 2 (some .boolean) rm_Fie_fits [.int x0, .int x1] (some (.int r)) := x_enterS (by decide +kernel) (Nat.le_of_ble_eq_true rfl) (fun p e s m args below meth c C ls hl => bC_Fie_fits_0 C x0 x1 hM ls hl)
def C_Fie_scatterShort_92 (x1 : Int32) : Option Int32 :=
  cr (C_Fie_pick  x1 (5 : Int32) (1 : Int32) (12 : Int32)) (fun r1 => cr (C_Fie_pick  x1 (0 : Int32) (5 : Int32) (2 : Int32)) (fun r2 => some (r1 ||| r2)))
set_option maxHeartbeats 4000000 in
set_option maxRecDepth 100000 in
theorem bC_Fie_scatterShort_92  {r : Int32} (C : CxS "LineAssembler$Fields" p s m args meth c cC_Fie_scatterShort 2 (some .int)) (x1 : Int32) (hM : C_Fie_scatterShort_92  x1 = some r) (ls : Array Slot) (hl : lv_has ls 2 [(1, .int x1)]) : W p l e rm_Fie_scatterShort s m args below meth c s.heap [] 0 0 (MQ below (QS (some (.int r))) args s 0 0 (fun _ => False)) (F0 m 92 ls []) := by
  have hx := C.1
  have hb := C.2.1
  have hown := C.2.2.2.2.1
  have hT := C.2.2.2.2.2.1
  unfold C_Fie_scatterShort_92 at hM
  refine lv_iload_n (pc := 92) hx hb dC_Fie_scatterShort_92 rfl (lv_at hl 0 rfl) ?_
  refine lv_iconst (pc := 93) (v := 5) hx hb dC_Fie_scatterShort_93 (by decide) ?_
  refine lv_iconst (pc := 94) (v := 1) hx hb dC_Fie_scatterShort_94 (by decide) ?_
  refine lv_bipush (pc := 95) (v := 12) hx hb dC_Fie_scatterShort_95 (by decide) ?_
  obtain ⟨r1, hr1, hM⟩ := cr_some hM
  refine x_callU (pc := 97) (ov := some (.int r1)) C (kC_Fie_pick l  x1 (5 : Int32) (1 : Int32) (12 : Int32) hr1) qc_1255 qc_1253 qc_1254 qc_35 ⟨by decide, by decide, by decide +kernel⟩ ⟨rfl, rfl⟩ ⟨Nat.le_of_ble_eq_true rfl, Nat.le_of_ble_eq_true rfl⟩ ⟨Nat.le_refl _, Nat.le_refl _⟩ (As := [.int x1, .int (5 : Int32), .int (1 : Int32), .int (12 : Int32)]) (n := 4) rfl hl.1 rfl (Nat.le_of_ble_eq_true rfl) dC_Fie_scatterShort_97 ?_
  refine lv_iload_n (pc := 100) hx hb dC_Fie_scatterShort_100 rfl (lv_at hl 0 rfl) ?_
  refine lv_iconst (pc := 101) (v := 0) hx hb dC_Fie_scatterShort_101 (by decide) ?_
  refine lv_iconst (pc := 102) (v := 5) hx hb dC_Fie_scatterShort_102 (by decide) ?_
  refine lv_iconst (pc := 103) (v := 2) hx hb dC_Fie_scatterShort_103 (by decide) ?_
  obtain ⟨r2, hr2, hM⟩ := cr_some hM
  refine x_callU (pc := 104) (ov := some (.int r2)) C (kC_Fie_pick l  x1 (0 : Int32) (5 : Int32) (2 : Int32) hr2) qc_1255 qc_1253 qc_1254 qc_35 ⟨by decide, by decide, by decide +kernel⟩ ⟨rfl, rfl⟩ ⟨Nat.le_of_ble_eq_true rfl, Nat.le_of_ble_eq_true rfl⟩ ⟨Nat.le_refl _, Nat.le_refl _⟩ (As := [.int x1, .int (0 : Int32), .int (5 : Int32), .int (2 : Int32)]) (n := 4) rfl hl.1 rfl (Nat.le_of_ble_eq_true rfl) dC_Fie_scatterShort_104 ?_
  refine lv_ior (pc := 107) hx hb dC_Fie_scatterShort_107 ?_
  obtain rfl := sm_i hM
  exact x_retS (pc := 108) C rfl dC_Fie_scatterShort_108
def C_Fie_scatterShort (x0 : Int32) (x1 : Int32) : Option Int32 :=
  (if x0 = (52 : Int32) then cr (C_Fie_pick  x1 (4 : Int32) (2 : Int32) (11 : Int32)) (fun r2 => cr (C_Fie_pick  x1 (6 : Int32) (4 : Int32) (7 : Int32)) (fun r3 => cr (C_Fie_pick  x1 (2 : Int32) (1 : Int32) (6 : Int32)) (fun r4 => cr (C_Fie_pick  x1 (3 : Int32) (1 : Int32) (5 : Int32)) (fun r5 => some (((r2 ||| r3) ||| r4) ||| r5))))) else (if x0 = (54 : Int32) then cr (C_Fie_pick  x1 (9 : Int32) (1 : Int32) (12 : Int32)) (fun r6 => cr (C_Fie_pick  x1 (4 : Int32) (1 : Int32) (6 : Int32)) (fun r7 => cr (C_Fie_pick  x1 (6 : Int32) (1 : Int32) (5 : Int32)) (fun r8 => cr (C_Fie_pick  x1 (7 : Int32) (2 : Int32) (3 : Int32)) (fun r9 => cr (C_Fie_pick  x1 (5 : Int32) (1 : Int32) (2 : Int32)) (fun r10 => some ((((r6 ||| r7) ||| r8) ||| r9) ||| r10)))))) else (if x0 = (66 : Int32) then cr (C_Fie_pick  x1 (8 : Int32) (1 : Int32) (12 : Int32)) (fun r11 => cr (C_Fie_pick  x1 (3 : Int32) (2 : Int32) (10 : Int32)) (fun r12 => cr (C_Fie_pick  x1 (6 : Int32) (2 : Int32) (5 : Int32)) (fun r13 => cr (C_Fie_pick  x1 (1 : Int32) (2 : Int32) (3 : Int32)) (fun r14 => cr (C_Fie_pick  x1 (5 : Int32) (1 : Int32) (2 : Int32)) (fun r15 => some ((((r11 ||| r12) ||| r13) ||| r14) ||| r15)))))) else (if x0 = (72 : Int32) then some (x1 <<< ((2 : Int32) &&& 31)) else (if x0 = (74 : Int32) then cr (C_Fie_pick  x1 (11 : Int32) (1 : Int32) (12 : Int32)) (fun r16 => cr (C_Fie_pick  x1 (4 : Int32) (1 : Int32) (11 : Int32)) (fun r17 => cr (C_Fie_pick  x1 (8 : Int32) (2 : Int32) (9 : Int32)) (fun r18 => cr (C_Fie_pick  x1 (10 : Int32) (1 : Int32) (8 : Int32)) (fun r19 => cr (C_Fie_pick  x1 (6 : Int32) (1 : Int32) (7 : Int32)) (fun r20 => cr (C_Fie_pick  x1 (7 : Int32) (1 : Int32) (6 : Int32)) (fun r21 => cr (C_Fie_pick  x1 (1 : Int32) (3 : Int32) (3 : Int32)) (fun r22 => cr (C_Fie_pick  x1 (5 : Int32) (1 : Int32) (2 : Int32)) (fun r23 => some (((((((r16 ||| r17) ||| r18) ||| r19) ||| r20) ||| r21) ||| r22) ||| r23))))))))) else (if x0 = (76 : Int32) then cr (C_Fie_pick  x1 (5 : Int32) (1 : Int32) (12 : Int32)) (fun r24 => cr (C_Fie_pick  x1 (2 : Int32) (3 : Int32) (4 : Int32)) (fun r25 => cr (C_Fie_pick  x1 (6 : Int32) (2 : Int32) (2 : Int32)) (fun r26 => some ((r24 ||| r25) ||| r26)))) else (if x0 = (78 : Int32) then C_Fie_scatterShort_92  x1 else (if x0 = (83 : Int32) then cr (C_Fie_pick  x1 (2 : Int32) (4 : Int32) (9 : Int32)) (fun r27 => cr (C_Fie_pick  x1 (6 : Int32) (2 : Int32) (7 : Int32)) (fun r28 => some (r27 ||| r28))) else (if x0 = (85 : Int32) then C_Fie_scatterShort_92  x1 else (if x0 = (119 : Int32) then cr (C_Fie_pick  x1 (3 : Int32) (3 : Int32) (10 : Int32)) (fun r29 => cr (C_Fie_pick  x1 (2 : Int32) (1 : Int32) (6 : Int32)) (fun r30 => cr (C_Fie_pick  x1 (6 : Int32) (1 : Int32) (5 : Int32)) (fun r31 => some ((r29 ||| r30) ||| r31)))) else some x1))))))))))
set_option maxHeartbeats 4000000 in
set_option maxRecDepth 100000 in
theorem bC_Fie_scatterShort_0  {r : Int32} (C : CxS "LineAssembler$Fields" p s m args meth c cC_Fie_scatterShort 2 (some .int)) (x0 : Int32) (x1 : Int32) (hM : C_Fie_scatterShort  x0 x1 = some r) (ls : Array Slot) (hl : lv_has ls 2 [(0, .int x0), (1, .int x1)]) : W p l e rm_Fie_scatterShort s m args below meth c s.heap [] 0 0 (MQ below (QS (some (.int r))) args s 0 0 (fun _ => False)) (F0 m 0 ls []) := by
  have hx := C.1
  have hb := C.2.1
  have hown := C.2.2.2.2.1
  have hT := C.2.2.2.2.2.1
  unfold C_Fie_scatterShort at hM
  refine lv_iload_n (pc := 0) hx hb dC_Fie_scatterShort_0 rfl (lv_at hl 0 rfl) ?_
  by_cases k1_0 : x0 = (52 : Int32)
  · replace hM := it_t k1_0 hM
    refine lv_lookup (pc := 1) (off := 112) (tgt := 113) hx hb dC_Fie_scatterShort_1 (by decide) (by rw [k1_0]; decide) (by decide) ?_
    refine lv_iload_n (pc := 113) hx hb dC_Fie_scatterShort_113 rfl (lv_at hl 1 rfl) ?_
    refine lv_iconst (pc := 114) (v := 4) hx hb dC_Fie_scatterShort_114 (by decide) ?_
    refine lv_iconst (pc := 115) (v := 2) hx hb dC_Fie_scatterShort_115 (by decide) ?_
    refine lv_bipush (pc := 116) (v := 11) hx hb dC_Fie_scatterShort_116 (by decide) ?_
    obtain ⟨r2, hr2, hM⟩ := cr_some hM
    refine x_callU (pc := 118) (ov := some (.int r2)) C (kC_Fie_pick l  x1 (4 : Int32) (2 : Int32) (11 : Int32) hr2) qc_1255 qc_1253 qc_1254 qc_35 ⟨by decide, by decide, by decide +kernel⟩ ⟨rfl, rfl⟩ ⟨Nat.le_of_ble_eq_true rfl, Nat.le_of_ble_eq_true rfl⟩ ⟨Nat.le_refl _, Nat.le_refl _⟩ (As := [.int x1, .int (4 : Int32), .int (2 : Int32), .int (11 : Int32)]) (n := 4) rfl hl.1 rfl (Nat.le_of_ble_eq_true rfl) dC_Fie_scatterShort_118 ?_
    refine lv_iload_n (pc := 121) hx hb dC_Fie_scatterShort_121 rfl (lv_at hl 1 rfl) ?_
    refine lv_bipush (pc := 122) (v := 6) hx hb dC_Fie_scatterShort_122 (by decide) ?_
    refine lv_iconst (pc := 124) (v := 4) hx hb dC_Fie_scatterShort_124 (by decide) ?_
    refine lv_bipush (pc := 125) (v := 7) hx hb dC_Fie_scatterShort_125 (by decide) ?_
    obtain ⟨r3, hr3, hM⟩ := cr_some hM
    refine x_callU (pc := 127) (ov := some (.int r3)) C (kC_Fie_pick l  x1 (6 : Int32) (4 : Int32) (7 : Int32) hr3) qc_1255 qc_1253 qc_1254 qc_35 ⟨by decide, by decide, by decide +kernel⟩ ⟨rfl, rfl⟩ ⟨Nat.le_of_ble_eq_true rfl, Nat.le_of_ble_eq_true rfl⟩ ⟨Nat.le_refl _, Nat.le_refl _⟩ (As := [.int x1, .int (6 : Int32), .int (4 : Int32), .int (7 : Int32)]) (n := 4) rfl hl.1 rfl (Nat.le_of_ble_eq_true rfl) dC_Fie_scatterShort_127 ?_
    refine lv_ior (pc := 130) hx hb dC_Fie_scatterShort_130 ?_
    refine lv_iload_n (pc := 131) hx hb dC_Fie_scatterShort_131 rfl (lv_at hl 1 rfl) ?_
    refine lv_iconst (pc := 132) (v := 2) hx hb dC_Fie_scatterShort_132 (by decide) ?_
    refine lv_iconst (pc := 133) (v := 1) hx hb dC_Fie_scatterShort_133 (by decide) ?_
    refine lv_bipush (pc := 134) (v := 6) hx hb dC_Fie_scatterShort_134 (by decide) ?_
    obtain ⟨r4, hr4, hM⟩ := cr_some hM
    refine x_callU (pc := 136) (ov := some (.int r4)) C (kC_Fie_pick l  x1 (2 : Int32) (1 : Int32) (6 : Int32) hr4) qc_1255 qc_1253 qc_1254 qc_35 ⟨by decide, by decide, by decide +kernel⟩ ⟨rfl, rfl⟩ ⟨Nat.le_of_ble_eq_true rfl, Nat.le_of_ble_eq_true rfl⟩ ⟨Nat.le_refl _, Nat.le_refl _⟩ (As := [.int x1, .int (2 : Int32), .int (1 : Int32), .int (6 : Int32)]) (n := 4) rfl hl.1 rfl (Nat.le_of_ble_eq_true rfl) dC_Fie_scatterShort_136 ?_
    refine lv_ior (pc := 139) hx hb dC_Fie_scatterShort_139 ?_
    refine lv_iload_n (pc := 140) hx hb dC_Fie_scatterShort_140 rfl (lv_at hl 1 rfl) ?_
    refine lv_iconst (pc := 141) (v := 3) hx hb dC_Fie_scatterShort_141 (by decide) ?_
    refine lv_iconst (pc := 142) (v := 1) hx hb dC_Fie_scatterShort_142 (by decide) ?_
    refine lv_iconst (pc := 143) (v := 5) hx hb dC_Fie_scatterShort_143 (by decide) ?_
    obtain ⟨r5, hr5, hM⟩ := cr_some hM
    refine x_callU (pc := 144) (ov := some (.int r5)) C (kC_Fie_pick l  x1 (3 : Int32) (1 : Int32) (5 : Int32) hr5) qc_1255 qc_1253 qc_1254 qc_35 ⟨by decide, by decide, by decide +kernel⟩ ⟨rfl, rfl⟩ ⟨Nat.le_of_ble_eq_true rfl, Nat.le_of_ble_eq_true rfl⟩ ⟨Nat.le_refl _, Nat.le_refl _⟩ (As := [.int x1, .int (3 : Int32), .int (1 : Int32), .int (5 : Int32)]) (n := 4) rfl hl.1 rfl (Nat.le_of_ble_eq_true rfl) dC_Fie_scatterShort_144 ?_
    refine lv_ior (pc := 147) hx hb dC_Fie_scatterShort_147 ?_
    obtain rfl := sm_i hM
    exact x_retS (pc := 148) C rfl dC_Fie_scatterShort_148
  · replace hM := it_f k1_0 hM
    by_cases k1_1 : x0 = (54 : Int32)
    · replace hM := it_t k1_1 hM
      refine lv_lookup (pc := 1) (off := 175) (tgt := 176) hx hb dC_Fie_scatterShort_1 (by decide) (by rw [k1_1]; decide) (by decide) ?_
      refine lv_iload_n (pc := 176) hx hb dC_Fie_scatterShort_176 rfl (lv_at hl 1 rfl) ?_
      refine lv_bipush (pc := 177) (v := 9) hx hb dC_Fie_scatterShort_177 (by decide) ?_
      refine lv_iconst (pc := 179) (v := 1) hx hb dC_Fie_scatterShort_179 (by decide) ?_
      refine lv_bipush (pc := 180) (v := 12) hx hb dC_Fie_scatterShort_180 (by decide) ?_
      obtain ⟨r6, hr6, hM⟩ := cr_some hM
      refine x_callU (pc := 182) (ov := some (.int r6)) C (kC_Fie_pick l  x1 (9 : Int32) (1 : Int32) (12 : Int32) hr6) qc_1255 qc_1253 qc_1254 qc_35 ⟨by decide, by decide, by decide +kernel⟩ ⟨rfl, rfl⟩ ⟨Nat.le_of_ble_eq_true rfl, Nat.le_of_ble_eq_true rfl⟩ ⟨Nat.le_refl _, Nat.le_refl _⟩ (As := [.int x1, .int (9 : Int32), .int (1 : Int32), .int (12 : Int32)]) (n := 4) rfl hl.1 rfl (Nat.le_of_ble_eq_true rfl) dC_Fie_scatterShort_182 ?_
      refine lv_iload_n (pc := 185) hx hb dC_Fie_scatterShort_185 rfl (lv_at hl 1 rfl) ?_
      refine lv_iconst (pc := 186) (v := 4) hx hb dC_Fie_scatterShort_186 (by decide) ?_
      refine lv_iconst (pc := 187) (v := 1) hx hb dC_Fie_scatterShort_187 (by decide) ?_
      refine lv_bipush (pc := 188) (v := 6) hx hb dC_Fie_scatterShort_188 (by decide) ?_
      obtain ⟨r7, hr7, hM⟩ := cr_some hM
      refine x_callU (pc := 190) (ov := some (.int r7)) C (kC_Fie_pick l  x1 (4 : Int32) (1 : Int32) (6 : Int32) hr7) qc_1255 qc_1253 qc_1254 qc_35 ⟨by decide, by decide, by decide +kernel⟩ ⟨rfl, rfl⟩ ⟨Nat.le_of_ble_eq_true rfl, Nat.le_of_ble_eq_true rfl⟩ ⟨Nat.le_refl _, Nat.le_refl _⟩ (As := [.int x1, .int (4 : Int32), .int (1 : Int32), .int (6 : Int32)]) (n := 4) rfl hl.1 rfl (Nat.le_of_ble_eq_true rfl) dC_Fie_scatterShort_190 ?_
      refine lv_ior (pc := 193) hx hb dC_Fie_scatterShort_193 ?_
      refine lv_iload_n (pc := 194) hx hb dC_Fie_scatterShort_194 rfl (lv_at hl 1 rfl) ?_
      refine lv_bipush (pc := 195) (v := 6) hx hb dC_Fie_scatterShort_195 (by decide) ?_
      refine lv_iconst (pc := 197) (v := 1) hx hb dC_Fie_scatterShort_197 (by decide) ?_
      refine lv_iconst (pc := 198) (v := 5) hx hb dC_Fie_scatterShort_198 (by decide) ?_
      obtain ⟨r8, hr8, hM⟩ := cr_some hM
      refine x_callU (pc := 199) (ov := some (.int r8)) C (kC_Fie_pick l  x1 (6 : Int32) (1 : Int32) (5 : Int32) hr8) qc_1255 qc_1253 qc_1254 qc_35 ⟨by decide, by decide, by decide +kernel⟩ ⟨rfl, rfl⟩ ⟨Nat.le_of_ble_eq_true rfl, Nat.le_of_ble_eq_true rfl⟩ ⟨Nat.le_refl _, Nat.le_refl _⟩ (As := [.int x1, .int (6 : Int32), .int (1 : Int32), .int (5 : Int32)]) (n := 4) rfl hl.1 rfl (Nat.le_of_ble_eq_true rfl) dC_Fie_scatterShort_199 ?_
      refine lv_ior (pc := 202) hx hb dC_Fie_scatterShort_202 ?_
      refine lv_iload_n (pc := 203) hx hb dC_Fie_scatterShort_203 rfl (lv_at hl 1 rfl) ?_
      refine lv_bipush (pc := 204) (v := 7) hx hb dC_Fie_scatterShort_204 (by decide) ?_
      refine lv_iconst (pc := 206) (v := 2) hx hb dC_Fie_scatterShort_206 (by decide) ?_
      refine lv_iconst (pc := 207) (v := 3) hx hb dC_Fie_scatterShort_207 (by decide) ?_
      obtain ⟨r9, hr9, hM⟩ := cr_some hM
      refine x_callU (pc := 208) (ov := some (.int r9)) C (kC_Fie_pick l  x1 (7 : Int32) (2 : Int32) (3 : Int32) hr9) qc_1255 qc_1253 qc_1254 qc_35 ⟨by decide, by decide, by decide +kernel⟩ ⟨rfl, rfl⟩ ⟨Nat.le_of_ble_eq_true rfl, Nat.le_of_ble_eq_true rfl⟩ ⟨Nat.le_refl _, Nat.le_refl _⟩ (As := [.int x1, .int (7 : Int32), .int (2 : Int32), .int (3 : Int32)]) (n := 4) rfl hl.1 rfl (Nat.le_of_ble_eq_true rfl) dC_Fie_scatterShort_208 ?_
      refine lv_ior (pc := 211) hx hb dC_Fie_scatterShort_211 ?_
      refine lv_iload_n (pc := 212) hx hb dC_Fie_scatterShort_212 rfl (lv_at hl 1 rfl) ?_
      refine lv_iconst (pc := 213) (v := 5) hx hb dC_Fie_scatterShort_213 (by decide) ?_
      refine lv_iconst (pc := 214) (v := 1) hx hb dC_Fie_scatterShort_214 (by decide) ?_
      refine lv_iconst (pc := 215) (v := 2) hx hb dC_Fie_scatterShort_215 (by decide) ?_
      obtain ⟨r10, hr10, hM⟩ := cr_some hM
      refine x_callU (pc := 216) (ov := some (.int r10)) C (kC_Fie_pick l  x1 (5 : Int32) (1 : Int32) (2 : Int32) hr10) qc_1255 qc_1253 qc_1254 qc_35 ⟨by decide, by decide, by decide +kernel⟩ ⟨rfl, rfl⟩ ⟨Nat.le_of_ble_eq_true rfl, Nat.le_of_ble_eq_true rfl⟩ ⟨Nat.le_refl _, Nat.le_refl _⟩ (As := [.int x1, .int (5 : Int32), .int (1 : Int32), .int (2 : Int32)]) (n := 4) rfl hl.1 rfl (Nat.le_of_ble_eq_true rfl) dC_Fie_scatterShort_216 ?_
      refine lv_ior (pc := 219) hx hb dC_Fie_scatterShort_219 ?_
      obtain rfl := sm_i hM
      exact x_retS (pc := 220) C rfl dC_Fie_scatterShort_220
    · replace hM := it_f k1_1 hM
      by_cases k1_2 : x0 = (66 : Int32)
      · replace hM := it_t k1_2 hM
        refine lv_lookup (pc := 1) (off := 340) (tgt := 341) hx hb dC_Fie_scatterShort_1 (by decide) (by rw [k1_2]; decide) (by decide) ?_
        refine lv_iload_n (pc := 341) hx hb dC_Fie_scatterShort_341 rfl (lv_at hl 1 rfl) ?_
        refine lv_bipush (pc := 342) (v := 8) hx hb dC_Fie_scatterShort_342 (by decide) ?_
        refine lv_iconst (pc := 344) (v := 1) hx hb dC_Fie_scatterShort_344 (by decide) ?_
        refine lv_bipush (pc := 345) (v := 12) hx hb dC_Fie_scatterShort_345 (by decide) ?_
        obtain ⟨r11, hr11, hM⟩ := cr_some hM
        refine x_callU (pc := 347) (ov := some (.int r11)) C (kC_Fie_pick l  x1 (8 : Int32) (1 : Int32) (12 : Int32) hr11) qc_1255 qc_1253 qc_1254 qc_35 ⟨by decide, by decide, by decide +kernel⟩ ⟨rfl, rfl⟩ ⟨Nat.le_of_ble_eq_true rfl, Nat.le_of_ble_eq_true rfl⟩ ⟨Nat.le_refl _, Nat.le_refl _⟩ (As := [.int x1, .int (8 : Int32), .int (1 : Int32), .int (12 : Int32)]) (n := 4) rfl hl.1 rfl (Nat.le_of_ble_eq_true rfl) dC_Fie_scatterShort_347 ?_
        refine lv_iload_n (pc := 350) hx hb dC_Fie_scatterShort_350 rfl (lv_at hl 1 rfl) ?_
        refine lv_iconst (pc := 351) (v := 3) hx hb dC_Fie_scatterShort_351 (by decide) ?_
        refine lv_iconst (pc := 352) (v := 2) hx hb dC_Fie_scatterShort_352 (by decide) ?_
        refine lv_bipush (pc := 353) (v := 10) hx hb dC_Fie_scatterShort_353 (by decide) ?_
        obtain ⟨r12, hr12, hM⟩ := cr_some hM
        refine x_callU (pc := 355) (ov := some (.int r12)) C (kC_Fie_pick l  x1 (3 : Int32) (2 : Int32) (10 : Int32) hr12) qc_1255 qc_1253 qc_1254 qc_35 ⟨by decide, by decide, by decide +kernel⟩ ⟨rfl, rfl⟩ ⟨Nat.le_of_ble_eq_true rfl, Nat.le_of_ble_eq_true rfl⟩ ⟨Nat.le_refl _, Nat.le_refl _⟩ (As := [.int x1, .int (3 : Int32), .int (2 : Int32), .int (10 : Int32)]) (n := 4) rfl hl.1 rfl (Nat.le_of_ble_eq_true rfl) dC_Fie_scatterShort_355 ?_
        refine lv_ior (pc := 358) hx hb dC_Fie_scatterShort_358 ?_
        refine lv_iload_n (pc := 359) hx hb dC_Fie_scatterShort_359 rfl (lv_at hl 1 rfl) ?_
        refine lv_bipush (pc := 360) (v := 6) hx hb dC_Fie_scatterShort_360 (by decide) ?_
        refine lv_iconst (pc := 362) (v := 2) hx hb dC_Fie_scatterShort_362 (by decide) ?_
        refine lv_iconst (pc := 363) (v := 5) hx hb dC_Fie_scatterShort_363 (by decide) ?_
        obtain ⟨r13, hr13, hM⟩ := cr_some hM
        refine x_callU (pc := 364) (ov := some (.int r13)) C (kC_Fie_pick l  x1 (6 : Int32) (2 : Int32) (5 : Int32) hr13) qc_1255 qc_1253 qc_1254 qc_35 ⟨by decide, by decide, by decide +kernel⟩ ⟨rfl, rfl⟩ ⟨Nat.le_of_ble_eq_true rfl, Nat.le_of_ble_eq_true rfl⟩ ⟨Nat.le_refl _, Nat.le_refl _⟩ (As := [.int x1, .int (6 : Int32), .int (2 : Int32), .int (5 : Int32)]) (n := 4) rfl hl.1 rfl (Nat.le_of_ble_eq_true rfl) dC_Fie_scatterShort_364 ?_
        refine lv_ior (pc := 367) hx hb dC_Fie_scatterShort_367 ?_
        refine lv_iload_n (pc := 368) hx hb dC_Fie_scatterShort_368 rfl (lv_at hl 1 rfl) ?_
        refine lv_iconst (pc := 369) (v := 1) hx hb dC_Fie_scatterShort_369 (by decide) ?_
        refine lv_iconst (pc := 370) (v := 2) hx hb dC_Fie_scatterShort_370 (by decide) ?_
        refine lv_iconst (pc := 371) (v := 3) hx hb dC_Fie_scatterShort_371 (by decide) ?_
        obtain ⟨r14, hr14, hM⟩ := cr_some hM
        refine x_callU (pc := 372) (ov := some (.int r14)) C (kC_Fie_pick l  x1 (1 : Int32) (2 : Int32) (3 : Int32) hr14) qc_1255 qc_1253 qc_1254 qc_35 ⟨by decide, by decide, by decide +kernel⟩ ⟨rfl, rfl⟩ ⟨Nat.le_of_ble_eq_true rfl, Nat.le_of_ble_eq_true rfl⟩ ⟨Nat.le_refl _, Nat.le_refl _⟩ (As := [.int x1, .int (1 : Int32), .int (2 : Int32), .int (3 : Int32)]) (n := 4) rfl hl.1 rfl (Nat.le_of_ble_eq_true rfl) dC_Fie_scatterShort_372 ?_
        refine lv_ior (pc := 375) hx hb dC_Fie_scatterShort_375 ?_
        refine lv_iload_n (pc := 376) hx hb dC_Fie_scatterShort_376 rfl (lv_at hl 1 rfl) ?_
        refine lv_iconst (pc := 377) (v := 5) hx hb dC_Fie_scatterShort_377 (by decide) ?_
        refine lv_iconst (pc := 378) (v := 1) hx hb dC_Fie_scatterShort_378 (by decide) ?_
        refine lv_iconst (pc := 379) (v := 2) hx hb dC_Fie_scatterShort_379 (by decide) ?_
        obtain ⟨r15, hr15, hM⟩ := cr_some hM
        refine x_callU (pc := 380) (ov := some (.int r15)) C (kC_Fie_pick l  x1 (5 : Int32) (1 : Int32) (2 : Int32) hr15) qc_1255 qc_1253 qc_1254 qc_35 ⟨by decide, by decide, by decide +kernel⟩ ⟨rfl, rfl⟩ ⟨Nat.le_of_ble_eq_true rfl, Nat.le_of_ble_eq_true rfl⟩ ⟨Nat.le_refl _, Nat.le_refl _⟩ (As := [.int x1, .int (5 : Int32), .int (1 : Int32), .int (2 : Int32)]) (n := 4) rfl hl.1 rfl (Nat.le_of_ble_eq_true rfl) dC_Fie_scatterShort_380 ?_
        refine lv_ior (pc := 383) hx hb dC_Fie_scatterShort_383 ?_
        obtain rfl := sm_i hM
        exact x_retS (pc := 384) C rfl dC_Fie_scatterShort_384
      · replace hM := it_f k1_2 hM
        by_cases k1_3 : x0 = (72 : Int32)
        · replace hM := it_t k1_3 hM
          refine lv_lookup (pc := 1) (off := 108) (tgt := 109) hx hb dC_Fie_scatterShort_1 (by decide) (by rw [k1_3]; decide) (by decide) ?_
          refine lv_iload_n (pc := 109) hx hb dC_Fie_scatterShort_109 rfl (lv_at hl 1 rfl) ?_
          refine lv_iconst (pc := 110) (v := 2) hx hb dC_Fie_scatterShort_110 (by decide) ?_
          refine lv_ishl (pc := 111) hx hb dC_Fie_scatterShort_111 ?_
          obtain rfl := sm_i hM
          exact x_retS (pc := 112) C rfl dC_Fie_scatterShort_112
        · replace hM := it_f k1_3 hM
          by_cases k1_4 : x0 = (74 : Int32)
          · replace hM := it_t k1_4 hM
            refine lv_lookup (pc := 1) (off := 265) (tgt := 266) hx hb dC_Fie_scatterShort_1 (by decide) (by rw [k1_4]; decide) (by decide) ?_
            refine lv_iload_n (pc := 266) hx hb dC_Fie_scatterShort_266 rfl (lv_at hl 1 rfl) ?_
            refine lv_bipush (pc := 267) (v := 11) hx hb dC_Fie_scatterShort_267 (by decide) ?_
            refine lv_iconst (pc := 269) (v := 1) hx hb dC_Fie_scatterShort_269 (by decide) ?_
            refine lv_bipush (pc := 270) (v := 12) hx hb dC_Fie_scatterShort_270 (by decide) ?_
            obtain ⟨r16, hr16, hM⟩ := cr_some hM
            refine x_callU (pc := 272) (ov := some (.int r16)) C (kC_Fie_pick l  x1 (11 : Int32) (1 : Int32) (12 : Int32) hr16) qc_1255 qc_1253 qc_1254 qc_35 ⟨by decide, by decide, by decide +kernel⟩ ⟨rfl, rfl⟩ ⟨Nat.le_of_ble_eq_true rfl, Nat.le_of_ble_eq_true rfl⟩ ⟨Nat.le_refl _, Nat.le_refl _⟩ (As := [.int x1, .int (11 : Int32), .int (1 : Int32), .int (12 : Int32)]) (n := 4) rfl hl.1 rfl (Nat.le_of_ble_eq_true rfl) dC_Fie_scatterShort_272 ?_
            refine lv_iload_n (pc := 275) hx hb dC_Fie_scatterShort_275 rfl (lv_at hl 1 rfl) ?_
            refine lv_iconst (pc := 276) (v := 4) hx hb dC_Fie_scatterShort_276 (by decide) ?_
            refine lv_iconst (pc := 277) (v := 1) hx hb dC_Fie_scatterShort_277 (by decide) ?_
            refine lv_bipush (pc := 278) (v := 11) hx hb dC_Fie_scatterShort_278 (by decide) ?_
            obtain ⟨r17, hr17, hM⟩ := cr_some hM
            refine x_callU (pc := 280) (ov := some (.int r17)) C (kC_Fie_pick l  x1 (4 : Int32) (1 : Int32) (11 : Int32) hr17) qc_1255 qc_1253 qc_1254 qc_35 ⟨by decide, by decide, by decide +kernel⟩ ⟨rfl, rfl⟩ ⟨Nat.le_of_ble_eq_true rfl, Nat.le_of_ble_eq_true rfl⟩ ⟨Nat.le_refl _, Nat.le_refl _⟩ (As := [.int x1, .int (4 : Int32), .int (1 : Int32), .int (11 : Int32)]) (n := 4) rfl hl.1 rfl (Nat.le_of_ble_eq_true rfl) dC_Fie_scatterShort_280 ?_
            refine lv_ior (pc := 283) hx hb dC_Fie_scatterShort_283 ?_
            refine lv_iload_n (pc := 284) hx hb dC_Fie_scatterShort_284 rfl (lv_at hl 1 rfl) ?_
            refine lv_bipush (pc := 285) (v := 8) hx hb dC_Fie_scatterShort_285 (by decide) ?_
            refine lv_iconst (pc := 287) (v := 2) hx hb dC_Fie_scatterShort_287 (by decide) ?_
            refine lv_bipush (pc := 288) (v := 9) hx hb dC_Fie_scatterShort_288 (by decide) ?_
            obtain ⟨r18, hr18, hM⟩ := cr_some hM
            refine x_callU (pc := 290) (ov := some (.int r18)) C (kC_Fie_pick l  x1 (8 : Int32) (2 : Int32) (9 : Int32) hr18) qc_1255 qc_1253 qc_1254 qc_35 ⟨by decide, by decide, by decide +kernel⟩ ⟨rfl, rfl⟩ ⟨Nat.le_of_ble_eq_true rfl, Nat.le_of_ble_eq_true rfl⟩ ⟨Nat.le_refl _, Nat.le_refl _⟩ (As := [.int x1, .int (8 : Int32), .int (2 : Int32), .int (9 : Int32)]) (n := 4) rfl hl.1 rfl (Nat.le_of_ble_eq_true rfl) dC_Fie_scatterShort_290 ?_
            refine lv_ior (pc := 293) hx hb dC_Fie_scatterShort_293 ?_
            refine lv_iload_n (pc := 294) hx hb dC_Fie_scatterShort_294 rfl (lv_at hl 1 rfl) ?_
            refine lv_bipush (pc := 295) (v := 10) hx hb dC_Fie_scatterShort_295 (by decide) ?_
            refine lv_iconst (pc := 297) (v := 1) hx hb dC_Fie_scatterShort_297 (by decide) ?_
            refine lv_bipush (pc := 298) (v := 8) hx hb dC_Fie_scatterShort_298 (by decide) ?_
            obtain ⟨r19, hr19, hM⟩ := cr_some hM
            refine x_callU (pc := 300) (ov := some (.int r19)) C (kC_Fie_pick l  x1 (10 : Int32) (1 : Int32) (8 : Int32) hr19) qc_1255 qc_1253 qc_1254 qc_35 ⟨by decide, by decide, by decide +kernel⟩ ⟨rfl, rfl⟩ ⟨Nat.le_of_ble_eq_true rfl, Nat.le_of_ble_eq_true rfl⟩ ⟨Nat.le_refl _, Nat.le_refl _⟩ (As := [.int x1, .int (10 : Int32), .int (1 : Int32), .int (8 : Int32)]) (n := 4) rfl hl.1 rfl (Nat.le_of_ble_eq_true rfl) dC_Fie_scatterShort_300 ?_
            refine lv_ior (pc := 303) hx hb dC_Fie_scatterShort_303 ?_
            refine lv_iload_n (pc := 304) hx hb dC_Fie_scatterShort_304 rfl (lv_at hl 1 rfl) ?_
            refine lv_bipush (pc := 305) (v := 6) hx hb dC_Fie_scatterShort_305 (by decide) ?_
            refine lv_iconst (pc := 307) (v := 1) hx hb dC_Fie_scatterShort_307 (by decide) ?_
            refine lv_bipush (pc := 308) (v := 7) hx hb dC_Fie_scatterShort_308 (by decide) ?_
            obtain ⟨r20, hr20, hM⟩ := cr_some hM
            refine x_callU (pc := 310) (ov := some (.int r20)) C (kC_Fie_pick l  x1 (6 : Int32) (1 : Int32) (7 : Int32) hr20) qc_1255 qc_1253 qc_1254 qc_35 ⟨by decide, by decide, by decide +kernel⟩ ⟨rfl, rfl⟩ ⟨Nat.le_of_ble_eq_true rfl, Nat.le_of_ble_eq_true rfl⟩ ⟨Nat.le_refl _, Nat.le_refl _⟩ (As := [.int x1, .int (6 : Int32), .int (1 : Int32), .int (7 : Int32)]) (n := 4) rfl hl.1 rfl (Nat.le_of_ble_eq_true rfl) dC_Fie_scatterShort_310 ?_
            refine lv_ior (pc := 313) hx hb dC_Fie_scatterShort_313 ?_
            refine lv_iload_n (pc := 314) hx hb dC_Fie_scatterShort_314 rfl (lv_at hl 1 rfl) ?_
            refine lv_bipush (pc := 315) (v := 7) hx hb dC_Fie_scatterShort_315 (by decide) ?_
            refine lv_iconst (pc := 317) (v := 1) hx hb dC_Fie_scatterShort_317 (by decide) ?_
            refine lv_bipush (pc := 318) (v := 6) hx hb dC_Fie_scatterShort_318 (by decide) ?_
            obtain ⟨r21, hr21, hM⟩ := cr_some hM
            refine x_callU (pc := 320) (ov := some (.int r21)) C (kC_Fie_pick l  x1 (7 : Int32) (1 : Int32) (6 : Int32) hr21) qc_1255 qc_1253 qc_1254 qc_35 ⟨by decide, by decide, by decide +kernel⟩ ⟨rfl, rfl⟩ ⟨Nat.le_of_ble_eq_true rfl, Nat.le_of_ble_eq_true rfl⟩ ⟨Nat.le_refl _, Nat.le_refl _⟩ (As := [.int x1, .int (7 : Int32), .int (1 : Int32), .int (6 : Int32)]) (n := 4) rfl hl.1 rfl (Nat.le_of_ble_eq_true rfl) dC_Fie_scatterShort_320 ?_
            refine lv_ior (pc := 323) hx hb dC_Fie_scatterShort_323 ?_
            refine lv_iload_n (pc := 324) hx hb dC_Fie_scatterShort_324 rfl (lv_at hl 1 rfl) ?_
            refine lv_iconst (pc := 325) (v := 1) hx hb dC_Fie_scatterShort_325 (by decide) ?_
            refine lv_iconst (pc := 326) (v := 3) hx hb dC_Fie_scatterShort_326 (by decide) ?_
            refine lv_iconst (pc := 327) (v := 3) hx hb dC_Fie_scatterShort_327 (by decide) ?_
            obtain ⟨r22, hr22, hM⟩ := cr_some hM
            refine x_callU (pc := 328) (ov := some (.int r22)) C (kC_Fie_pick l  x1 (1 : Int32) (3 : Int32) (3 : Int32) hr22) qc_1255 qc_1253 qc_1254 qc_35 ⟨by decide, by decide, by decide +kernel⟩ ⟨rfl, rfl⟩ ⟨Nat.le_of_ble_eq_true rfl, Nat.le_of_ble_eq_true rfl⟩ ⟨Nat.le_refl _, Nat.le_refl _⟩ (As := [.int x1, .int (1 : Int32), .int (3 : Int32), .int (3 : Int32)]) (n := 4) rfl hl.1 rfl (Nat.le_of_ble_eq_true rfl) dC_Fie_scatterShort_328 ?_
            refine lv_ior (pc := 331) hx hb dC_Fie_scatterShort_331 ?_
            refine lv_iload_n (pc := 332) hx hb dC_Fie_scatterShort_332 rfl (lv_at hl 1 rfl) ?_
            refine lv_iconst (pc := 333) (v := 5) hx hb dC_Fie_scatterShort_333 (by decide) ?_
            refine lv_iconst (pc := 334) (v := 1) hx hb dC_Fie_scatterShort_334 (by decide) ?_
            refine lv_iconst (pc := 335) (v := 2) hx hb dC_Fie_scatterShort_335 (by decide) ?_
            obtain ⟨r23, hr23, hM⟩ := cr_some hM
            refine x_callU (pc := 336) (ov := some (.int r23)) C (kC_Fie_pick l  x1 (5 : Int32) (1 : Int32) (2 : Int32) hr23) qc_1255 qc_1253 qc_1254 qc_35 ⟨by decide, by decide, by decide +kernel⟩ ⟨rfl, rfl⟩ ⟨Nat.le_of_ble_eq_true rfl, Nat.le_of_ble_eq_true rfl⟩ ⟨Nat.le_refl _, Nat.le_refl _⟩ (As := [.int x1, .int (5 : Int32), .int (1 : Int32), .int (2 : Int32)]) (n := 4) rfl hl.1 rfl (Nat.le_of_ble_eq_true rfl) dC_Fie_scatterShort_336 ?_
            refine lv_ior (pc := 339) hx hb dC_Fie_scatterShort_339 ?_
            obtain rfl := sm_i hM
            exact x_retS (pc := 340) C rfl dC_Fie_scatterShort_340
          · replace hM := it_f k1_4 hM
            by_cases k1_5 : x0 = (76 : Int32)
            · replace hM := it_t k1_5 hM
              refine lv_lookup (pc := 1) (off := 220) (tgt := 221) hx hb dC_Fie_scatterShort_1 (by decide) (by rw [k1_5]; decide) (by decide) ?_
              refine lv_iload_n (pc := 221) hx hb dC_Fie_scatterShort_221 rfl (lv_at hl 1 rfl) ?_
              refine lv_iconst (pc := 222) (v := 5) hx hb dC_Fie_scatterShort_222 (by decide) ?_
              refine lv_iconst (pc := 223) (v := 1) hx hb dC_Fie_scatterShort_223 (by decide) ?_
              refine lv_bipush (pc := 224) (v := 12) hx hb dC_Fie_scatterShort_224 (by decide) ?_
              obtain ⟨r24, hr24, hM⟩ := cr_some hM
              refine x_callU (pc := 226) (ov := some (.int r24)) C (kC_Fie_pick l  x1 (5 : Int32) (1 : Int32) (12 : Int32) hr24) qc_1255 qc_1253 qc_1254 qc_35 ⟨by decide, by decide, by decide +kernel⟩ ⟨rfl, rfl⟩ ⟨Nat.le_of_ble_eq_true rfl, Nat.le_of_ble_eq_true rfl⟩ ⟨Nat.le_refl _, Nat.le_refl _⟩ (As := [.int x1, .int (5 : Int32), .int (1 : Int32), .int (12 : Int32)]) (n := 4) rfl hl.1 rfl (Nat.le_of_ble_eq_true rfl) dC_Fie_scatterShort_226 ?_
              refine lv_iload_n (pc := 229) hx hb dC_Fie_scatterShort_229 rfl (lv_at hl 1 rfl) ?_
              refine lv_iconst (pc := 230) (v := 2) hx hb dC_Fie_scatterShort_230 (by decide) ?_
              refine lv_iconst (pc := 231) (v := 3) hx hb dC_Fie_scatterShort_231 (by decide) ?_
              refine lv_iconst (pc := 232) (v := 4) hx hb dC_Fie_scatterShort_232 (by decide) ?_
              obtain ⟨r25, hr25, hM⟩ := cr_some hM
              refine x_callU (pc := 233) (ov := some (.int r25)) C (kC_Fie_pick l  x1 (2 : Int32) (3 : Int32) (4 : Int32) hr25) qc_1255 qc_1253 qc_1254 qc_35 ⟨by decide, by decide, by decide +kernel⟩ ⟨rfl, rfl⟩ ⟨Nat.le_of_ble_eq_true rfl, Nat.le_of_ble_eq_true rfl⟩ ⟨Nat.le_refl _, Nat.le_refl _⟩ (As := [.int x1, .int (2 : Int32), .int (3 : Int32), .int (4 : Int32)]) (n := 4) rfl hl.1 rfl (Nat.le_of_ble_eq_true rfl) dC_Fie_scatterShort_233 ?_
              refine lv_ior (pc := 236) hx hb dC_Fie_scatterShort_236 ?_
              refine lv_iload_n (pc := 237) hx hb dC_Fie_scatterShort_237 rfl (lv_at hl 1 rfl) ?_
              refine lv_bipush (pc := 238) (v := 6) hx hb dC_Fie_scatterShort_238 (by decide) ?_
              refine lv_iconst (pc := 240) (v := 2) hx hb dC_Fie_scatterShort_240 (by decide) ?_
              refine lv_iconst (pc := 241) (v := 2) hx hb dC_Fie_scatterShort_241 (by decide) ?_
              obtain ⟨r26, hr26, hM⟩ := cr_some hM
              refine x_callU (pc := 242) (ov := some (.int r26)) C (kC_Fie_pick l  x1 (6 : Int32) (2 : Int32) (2 : Int32) hr26) qc_1255 qc_1253 qc_1254 qc_35 ⟨by decide, by decide, by decide +kernel⟩ ⟨rfl, rfl⟩ ⟨Nat.le_of_ble_eq_true rfl, Nat.le_of_ble_eq_true rfl⟩ ⟨Nat.le_refl _, Nat.le_refl _⟩ (As := [.int x1, .int (6 : Int32), .int (2 : Int32), .int (2 : Int32)]) (n := 4) rfl hl.1 rfl (Nat.le_of_ble_eq_true rfl) dC_Fie_scatterShort_242 ?_
              refine lv_ior (pc := 245) hx hb dC_Fie_scatterShort_245 ?_
              obtain rfl := sm_i hM
              exact x_retS (pc := 246) C rfl dC_Fie_scatterShort_246
            · replace hM := it_f k1_5 hM
              by_cases k1_6 : x0 = (78 : Int32)
              · replace hM := it_t k1_6 hM
                refine lv_lookup (pc := 1) (off := 91) (tgt := 92) hx hb dC_Fie_scatterShort_1 (by decide) (by rw [k1_6]; decide) (by decide) ?_
                exact bC_Fie_scatterShort_92  C  _ hM _ (lv_sub hl [1] rfl)
              · replace hM := it_f k1_6 hM
                by_cases k1_7 : x0 = (83 : Int32)
                · replace hM := it_t k1_7 hM
                  refine lv_lookup (pc := 1) (off := 246) (tgt := 247) hx hb dC_Fie_scatterShort_1 (by decide) (by rw [k1_7]; decide) (by decide) ?_
                  refine lv_iload_n (pc := 247) hx hb dC_Fie_scatterShort_247 rfl (lv_at hl 1 rfl) ?_
                  refine lv_iconst (pc := 248) (v := 2) hx hb dC_Fie_scatterShort_248 (by decide) ?_
                  refine lv_iconst (pc := 249) (v := 4) hx hb dC_Fie_scatterShort_249 (by decide) ?_
                  refine lv_bipush (pc := 250) (v := 9) hx hb dC_Fie_scatterShort_250 (by decide) ?_
                  obtain ⟨r27, hr27, hM⟩ := cr_some hM
                  refine x_callU (pc := 252) (ov := some (.int r27)) C (kC_Fie_pick l  x1 (2 : Int32) (4 : Int32) (9 : Int32) hr27) qc_1255 qc_1253 qc_1254 qc_35 ⟨by decide, by decide, by decide +kernel⟩ ⟨rfl, rfl⟩ ⟨Nat.le_of_ble_eq_true rfl, Nat.le_of_ble_eq_true rfl⟩ ⟨Nat.le_refl _, Nat.le_refl _⟩ (As := [.int x1, .int (2 : Int32), .int (4 : Int32), .int (9 : Int32)]) (n := 4) rfl hl.1 rfl (Nat.le_of_ble_eq_true rfl) dC_Fie_scatterShort_252 ?_
                  refine lv_iload_n (pc := 255) hx hb dC_Fie_scatterShort_255 rfl (lv_at hl 1 rfl) ?_
                  refine lv_bipush (pc := 256) (v := 6) hx hb dC_Fie_scatterShort_256 (by decide) ?_
                  refine lv_iconst (pc := 258) (v := 2) hx hb dC_Fie_scatterShort_258 (by decide) ?_
                  refine lv_bipush (pc := 259) (v := 7) hx hb dC_Fie_scatterShort_259 (by decide) ?_
                  obtain ⟨r28, hr28, hM⟩ := cr_some hM
                  refine x_callU (pc := 261) (ov := some (.int r28)) C (kC_Fie_pick l  x1 (6 : Int32) (2 : Int32) (7 : Int32) hr28) qc_1255 qc_1253 qc_1254 qc_35 ⟨by decide, by decide, by decide +kernel⟩ ⟨rfl, rfl⟩ ⟨Nat.le_of_ble_eq_true rfl, Nat.le_of_ble_eq_true rfl⟩ ⟨Nat.le_refl _, Nat.le_refl _⟩ (As := [.int x1, .int (6 : Int32), .int (2 : Int32), .int (7 : Int32)]) (n := 4) rfl hl.1 rfl (Nat.le_of_ble_eq_true rfl) dC_Fie_scatterShort_261 ?_
                  refine lv_ior (pc := 264) hx hb dC_Fie_scatterShort_264 ?_
                  obtain rfl := sm_i hM
                  exact x_retS (pc := 265) C rfl dC_Fie_scatterShort_265
                · replace hM := it_f k1_7 hM
                  by_cases k1_8 : x0 = (85 : Int32)
                  · replace hM := it_t k1_8 hM
                    refine lv_lookup (pc := 1) (off := 91) (tgt := 92) hx hb dC_Fie_scatterShort_1 (by decide) (by rw [k1_8]; decide) (by decide) ?_
                    exact bC_Fie_scatterShort_92  C  _ hM _ (lv_sub hl [1] rfl)
                  · replace hM := it_f k1_8 hM
                    by_cases k1_9 : x0 = (119 : Int32)
                    · replace hM := it_t k1_9 hM
                      refine lv_lookup (pc := 1) (off := 148) (tgt := 149) hx hb dC_Fie_scatterShort_1 (by decide) (by rw [k1_9]; decide) (by decide) ?_
                      refine lv_iload_n (pc := 149) hx hb dC_Fie_scatterShort_149 rfl (lv_at hl 1 rfl) ?_
                      refine lv_iconst (pc := 150) (v := 3) hx hb dC_Fie_scatterShort_150 (by decide) ?_
                      refine lv_iconst (pc := 151) (v := 3) hx hb dC_Fie_scatterShort_151 (by decide) ?_
                      refine lv_bipush (pc := 152) (v := 10) hx hb dC_Fie_scatterShort_152 (by decide) ?_
                      obtain ⟨r29, hr29, hM⟩ := cr_some hM
                      refine x_callU (pc := 154) (ov := some (.int r29)) C (kC_Fie_pick l  x1 (3 : Int32) (3 : Int32) (10 : Int32) hr29) qc_1255 qc_1253 qc_1254 qc_35 ⟨by decide, by decide, by decide +kernel⟩ ⟨rfl, rfl⟩ ⟨Nat.le_of_ble_eq_true rfl, Nat.le_of_ble_eq_true rfl⟩ ⟨Nat.le_refl _, Nat.le_refl _⟩ (As := [.int x1, .int (3 : Int32), .int (3 : Int32), .int (10 : Int32)]) (n := 4) rfl hl.1 rfl (Nat.le_of_ble_eq_true rfl) dC_Fie_scatterShort_154 ?_
                      refine lv_iload_n (pc := 157) hx hb dC_Fie_scatterShort_157 rfl (lv_at hl 1 rfl) ?_
                      refine lv_iconst (pc := 158) (v := 2) hx hb dC_Fie_scatterShort_158 (by decide) ?_
                      refine lv_iconst (pc := 159) (v := 1) hx hb dC_Fie_scatterShort_159 (by decide) ?_
                      refine lv_bipush (pc := 160) (v := 6) hx hb dC_Fie_scatterShort_160 (by decide) ?_
                      obtain ⟨r30, hr30, hM⟩ := cr_some hM
                      refine x_callU (pc := 162) (ov := some (.int r30)) C (kC_Fie_pick l  x1 (2 : Int32) (1 : Int32) (6 : Int32) hr30) qc_1255 qc_1253 qc_1254 qc_35 ⟨by decide, by decide, by decide +kernel⟩ ⟨rfl, rfl⟩ ⟨Nat.le_of_ble_eq_true rfl, Nat.le_of_ble_eq_true rfl⟩ ⟨Nat.le_refl _, Nat.le_refl _⟩ (As := [.int x1, .int (2 : Int32), .int (1 : Int32), .int (6 : Int32)]) (n := 4) rfl hl.1 rfl (Nat.le_of_ble_eq_true rfl) dC_Fie_scatterShort_162 ?_
                      refine lv_ior (pc := 165) hx hb dC_Fie_scatterShort_165 ?_
                      refine lv_iload_n (pc := 166) hx hb dC_Fie_scatterShort_166 rfl (lv_at hl 1 rfl) ?_
                      refine lv_bipush (pc := 167) (v := 6) hx hb dC_Fie_scatterShort_167 (by decide) ?_
                      refine lv_iconst (pc := 169) (v := 1) hx hb dC_Fie_scatterShort_169 (by decide) ?_
                      refine lv_iconst (pc := 170) (v := 5) hx hb dC_Fie_scatterShort_170 (by decide) ?_
                      obtain ⟨r31, hr31, hM⟩ := cr_some hM
                      refine x_callU (pc := 171) (ov := some (.int r31)) C (kC_Fie_pick l  x1 (6 : Int32) (1 : Int32) (5 : Int32) hr31) qc_1255 qc_1253 qc_1254 qc_35 ⟨by decide, by decide, by decide +kernel⟩ ⟨rfl, rfl⟩ ⟨Nat.le_of_ble_eq_true rfl, Nat.le_of_ble_eq_true rfl⟩ ⟨Nat.le_refl _, Nat.le_refl _⟩ (As := [.int x1, .int (6 : Int32), .int (1 : Int32), .int (5 : Int32)]) (n := 4) rfl hl.1 rfl (Nat.le_of_ble_eq_true rfl) dC_Fie_scatterShort_171 ?_
                      refine lv_ior (pc := 174) hx hb dC_Fie_scatterShort_174 ?_
                      obtain rfl := sm_i hM
                      exact x_retS (pc := 175) C rfl dC_Fie_scatterShort_175
                    · replace hM := it_f k1_9 hM
                      refine lv_lookup (pc := 1) (off := 384) (tgt := 385) hx hb dC_Fie_scatterShort_1 (by decide) (by rw [lv_osw k1_0 (by decide)]; rw [lv_osw k1_1 (by decide)]; rw [lv_osw k1_2 (by decide)]; rw [lv_osw k1_3 (by decide)]; rw [lv_osw k1_4 (by decide)]; rw [lv_osw k1_5 (by decide)]; rw [lv_osw k1_6 (by decide)]; rw [lv_osw k1_7 (by decide)]; rw [lv_osw k1_8 (by decide)]; rw [lv_osw k1_9 (by decide)]; rfl) (by decide) ?_
                      refine lv_iload_n (pc := 385) hx hb dC_Fie_scatterShort_385 rfl (lv_at hl 1 rfl) ?_
                      obtain rfl := sm_i hM
                      exact x_retS (pc := 386) C rfl dC_Fie_scatterShort_386
theorem kC_Fie_scatterShort (l : Launch) (x0 : Int32) (x1 : Int32) {r : Int32} (hM : C_Fie_scatterShort x0 x1 = some r) : KS l yC_Fie_scatterShort cC_Fie_scatterShort 2 (some .int) rm_Fie_scatterShort [.int x0, .int x1] (some (.int r)) := x_enterS (by decide +kernel) (Nat.le_of_ble_eq_true rfl) (fun p e s m args below meth c C ls hl => bC_Fie_scatterShort_0 C x0 x1 hM ls hl)
def C_Fie_scatter_72 (x1 : Int32) : Option Int32 :=
  some (x1 <<< ((20 : Int32) &&& 31))
set_option maxHeartbeats 4000000 in
set_option maxRecDepth 100000 in
theorem bC_Fie_scatter_72  {r : Int32} (C : CxS "LineAssembler$Fields" p s m args meth c cC_Fie_scatter 2 (some .int)) (x1 : Int32) (hM : C_Fie_scatter_72  x1 = some r) (ls : Array Slot) (hl : lv_has ls 2 [(1, .int x1)]) : W p l e rm_Fie_scatter s m args below meth c s.heap [] 0 0 (MQ below (QS (some (.int r))) args s 0 0 (fun _ => False)) (F0 m 72 ls []) := by
  have hx := C.1
  have hb := C.2.1
  have hown := C.2.2.2.2.1
  have hT := C.2.2.2.2.2.1
  unfold C_Fie_scatter_72 at hM
  refine lv_iload_n (pc := 72) hx hb dC_Fie_scatter_72 rfl (lv_at hl 0 rfl) ?_
  refine lv_bipush (pc := 73) (v := 20) hx hb dC_Fie_scatter_73 (by decide) ?_
  refine lv_ishl (pc := 75) hx hb dC_Fie_scatter_75 ?_
  obtain rfl := sm_i hM
  exact x_retS (pc := 76) C rfl dC_Fie_scatter_76
def C_Fie_scatter (x0 : Int32) (x1 : Int32) : Option Int32 :=
  (if x0 = (104 : Int32) then C_Fie_scatter_72  x1 else (if x0 = (105 : Int32) then C_Fie_scatter_72  x1 else (if x0 = (106 : Int32) then cr (C_Fie_pick  x1 (20 : Int32) (1 : Int32) (31 : Int32)) (fun r2 => cr (C_Fie_pick  x1 (1 : Int32) (10 : Int32) (21 : Int32)) (fun r3 => cr (C_Fie_pick  x1 (11 : Int32) (1 : Int32) (20 : Int32)) (fun r4 => cr (C_Fie_pick  x1 (12 : Int32) (8 : Int32) (12 : Int32)) (fun r5 => some (((r2 ||| r3) ||| r4) ||| r5))))) else (if x0 = (111 : Int32) then cr (C_Fie_pick  x1 (5 : Int32) (7 : Int32) (25 : Int32)) (fun r6 => cr (C_Fie_pick  x1 (0 : Int32) (5 : Int32) (7 : Int32)) (fun r7 => some (r6 ||| r7))) else (if x0 = (116 : Int32) then cr (C_Fie_pick  x1 (12 : Int32) (1 : Int32) (31 : Int32)) (fun r8 => cr (C_Fie_pick  x1 (5 : Int32) (6 : Int32) (25 : Int32)) (fun r9 => cr (C_Fie_pick  x1 (1 : Int32) (4 : Int32) (8 : Int32)) (fun r10 => cr (C_Fie_pick  x1 (11 : Int32) (1 : Int32) (7 : Int32)) (fun r11 => some (((r8 ||| r9) ||| r10) ||| r11))))) else (if x0 = (117 : Int32) then some (x1 <<< ((12 : Int32) &&& 31)) else cr (C_Fie_scatterShort  x0 x1) (fun r12 => some r12)))))))
set_option maxHeartbeats 4000000 in
set_option maxRecDepth 100000 in
theorem bC_Fie_scatter_0  {r : Int32} (C : CxS "LineAssembler$Fields" p s m args meth c cC_Fie_scatter 2 (some .int)) (x0 : Int32) (x1 : Int32) (hM : C_Fie_scatter  x0 x1 = some r) (ls : Array Slot) (hl : lv_has ls 2 [(0, .int x0), (1, .int x1)]) : W p l e rm_Fie_scatter s m args below meth c s.heap [] 0 0 (MQ below (QS (some (.int r))) args s 0 0 (fun _ => False)) (F0 m 0 ls []) := by
  have hx := C.1
  have hb := C.2.1
  have hown := C.2.2.2.2.1
  have hT := C.2.2.2.2.2.1
  unfold C_Fie_scatter at hM
  refine lv_iload_n (pc := 0) hx hb dC_Fie_scatter_0 rfl (lv_at hl 0 rfl) ?_
  by_cases k1_0 : x0 = (104 : Int32)
  · replace hM := it_t k1_0 hM
    refine lv_tableIn (pc := 1) (off := 71) (tgt := 72) hx hb dC_Fie_scatter_1 (by rw [k1_0]; decide) (by rw [k1_0]; decide) (by rw [k1_0]; decide) (by decide) ?_
    exact bC_Fie_scatter_72  C  _ hM _ (lv_sub hl [1] rfl)
  · replace hM := it_f k1_0 hM
    by_cases k1_1 : x0 = (105 : Int32)
    · replace hM := it_t k1_1 hM
      refine lv_tableIn (pc := 1) (off := 71) (tgt := 72) hx hb dC_Fie_scatter_1 (by rw [k1_1]; decide) (by rw [k1_1]; decide) (by rw [k1_1]; decide) (by decide) ?_
      exact bC_Fie_scatter_72  C  _ hM _ (lv_sub hl [1] rfl)
    · replace hM := it_f k1_1 hM
      by_cases k1_2 : x0 = (106 : Int32)
      · replace hM := it_t k1_2 hM
        refine lv_tableIn (pc := 1) (off := 139) (tgt := 140) hx hb dC_Fie_scatter_1 (by rw [k1_2]; decide) (by rw [k1_2]; decide) (by rw [k1_2]; decide) (by decide) ?_
        refine lv_iload_n (pc := 140) hx hb dC_Fie_scatter_140 rfl (lv_at hl 1 rfl) ?_
        refine lv_bipush (pc := 141) (v := 20) hx hb dC_Fie_scatter_141 (by decide) ?_
        refine lv_iconst (pc := 143) (v := 1) hx hb dC_Fie_scatter_143 (by decide) ?_
        refine lv_bipush (pc := 144) (v := 31) hx hb dC_Fie_scatter_144 (by decide) ?_
        obtain ⟨r2, hr2, hM⟩ := cr_some hM
        refine x_callU (pc := 146) (ov := some (.int r2)) C (kC_Fie_pick l  x1 (20 : Int32) (1 : Int32) (31 : Int32) hr2) qc_1255 qc_1253 qc_1254 qc_35 ⟨by decide, by decide, by decide +kernel⟩ ⟨rfl, rfl⟩ ⟨Nat.le_of_ble_eq_true rfl, Nat.le_of_ble_eq_true rfl⟩ ⟨Nat.le_refl _, Nat.le_refl _⟩ (As := [.int x1, .int (20 : Int32), .int (1 : Int32), .int (31 : Int32)]) (n := 4) rfl hl.1 rfl (Nat.le_of_ble_eq_true rfl) dC_Fie_scatter_146 ?_
        refine lv_iload_n (pc := 149) hx hb dC_Fie_scatter_149 rfl (lv_at hl 1 rfl) ?_
        refine lv_iconst (pc := 150) (v := 1) hx hb dC_Fie_scatter_150 (by decide) ?_
        refine lv_bipush (pc := 151) (v := 10) hx hb dC_Fie_scatter_151 (by decide) ?_
        refine lv_bipush (pc := 153) (v := 21) hx hb dC_Fie_scatter_153 (by decide) ?_
        obtain ⟨r3, hr3, hM⟩ := cr_some hM
        refine x_callU (pc := 155) (ov := some (.int r3)) C (kC_Fie_pick l  x1 (1 : Int32) (10 : Int32) (21 : Int32) hr3) qc_1255 qc_1253 qc_1254 qc_35 ⟨by decide, by decide, by decide +kernel⟩ ⟨rfl, rfl⟩ ⟨Nat.le_of_ble_eq_true rfl, Nat.le_of_ble_eq_true rfl⟩ ⟨Nat.le_refl _, Nat.le_refl _⟩ (As := [.int x1, .int (1 : Int32), .int (10 : Int32), .int (21 : Int32)]) (n := 4) rfl hl.1 rfl (Nat.le_of_ble_eq_true rfl) dC_Fie_scatter_155 ?_
        refine lv_ior (pc := 158) hx hb dC_Fie_scatter_158 ?_
        refine lv_iload_n (pc := 159) hx hb dC_Fie_scatter_159 rfl (lv_at hl 1 rfl) ?_
        refine lv_bipush (pc := 160) (v := 11) hx hb dC_Fie_scatter_160 (by decide) ?_
        refine lv_iconst (pc := 162) (v := 1) hx hb dC_Fie_scatter_162 (by decide) ?_
        refine lv_bipush (pc := 163) (v := 20) hx hb dC_Fie_scatter_163 (by decide) ?_
        obtain ⟨r4, hr4, hM⟩ := cr_some hM
        refine x_callU (pc := 165) (ov := some (.int r4)) C (kC_Fie_pick l  x1 (11 : Int32) (1 : Int32) (20 : Int32) hr4) qc_1255 qc_1253 qc_1254 qc_35 ⟨by decide, by decide, by decide +kernel⟩ ⟨rfl, rfl⟩ ⟨Nat.le_of_ble_eq_true rfl, Nat.le_of_ble_eq_true rfl⟩ ⟨Nat.le_refl _, Nat.le_refl _⟩ (As := [.int x1, .int (11 : Int32), .int (1 : Int32), .int (20 : Int32)]) (n := 4) rfl hl.1 rfl (Nat.le_of_ble_eq_true rfl) dC_Fie_scatter_165 ?_
        refine lv_ior (pc := 168) hx hb dC_Fie_scatter_168 ?_
        refine lv_iload_n (pc := 169) hx hb dC_Fie_scatter_169 rfl (lv_at hl 1 rfl) ?_
        refine lv_bipush (pc := 170) (v := 12) hx hb dC_Fie_scatter_170 (by decide) ?_
        refine lv_bipush (pc := 172) (v := 8) hx hb dC_Fie_scatter_172 (by decide) ?_
        refine lv_bipush (pc := 174) (v := 12) hx hb dC_Fie_scatter_174 (by decide) ?_
        obtain ⟨r5, hr5, hM⟩ := cr_some hM
        refine x_callU (pc := 176) (ov := some (.int r5)) C (kC_Fie_pick l  x1 (12 : Int32) (8 : Int32) (12 : Int32) hr5) qc_1255 qc_1253 qc_1254 qc_35 ⟨by decide, by decide, by decide +kernel⟩ ⟨rfl, rfl⟩ ⟨Nat.le_of_ble_eq_true rfl, Nat.le_of_ble_eq_true rfl⟩ ⟨Nat.le_refl _, Nat.le_refl _⟩ (As := [.int x1, .int (12 : Int32), .int (8 : Int32), .int (12 : Int32)]) (n := 4) rfl hl.1 rfl (Nat.le_of_ble_eq_true rfl) dC_Fie_scatter_176 ?_
        refine lv_ior (pc := 179) hx hb dC_Fie_scatter_179 ?_
        obtain rfl := sm_i hM
        exact x_retS (pc := 180) C rfl dC_Fie_scatter_180
      · replace hM := it_f k1_2 hM
        by_cases k1_3 : x0 = (111 : Int32)
        · replace hM := it_t k1_3 hM
          refine lv_tableIn (pc := 1) (off := 76) (tgt := 77) hx hb dC_Fie_scatter_1 (by rw [k1_3]; decide) (by rw [k1_3]; decide) (by rw [k1_3]; decide) (by decide) ?_
          refine lv_iload_n (pc := 77) hx hb dC_Fie_scatter_77 rfl (lv_at hl 1 rfl) ?_
          refine lv_iconst (pc := 78) (v := 5) hx hb dC_Fie_scatter_78 (by decide) ?_
          refine lv_bipush (pc := 79) (v := 7) hx hb dC_Fie_scatter_79 (by decide) ?_
          refine lv_bipush (pc := 81) (v := 25) hx hb dC_Fie_scatter_81 (by decide) ?_
          obtain ⟨r6, hr6, hM⟩ := cr_some hM
          refine x_callU (pc := 83) (ov := some (.int r6)) C (kC_Fie_pick l  x1 (5 : Int32) (7 : Int32) (25 : Int32) hr6) qc_1255 qc_1253 qc_1254 qc_35 ⟨by decide, by decide, by decide +kernel⟩ ⟨rfl, rfl⟩ ⟨Nat.le_of_ble_eq_true rfl, Nat.le_of_ble_eq_true rfl⟩ ⟨Nat.le_refl _, Nat.le_refl _⟩ (As := [.int x1, .int (5 : Int32), .int (7 : Int32), .int (25 : Int32)]) (n := 4) rfl hl.1 rfl (Nat.le_of_ble_eq_true rfl) dC_Fie_scatter_83 ?_
          refine lv_iload_n (pc := 86) hx hb dC_Fie_scatter_86 rfl (lv_at hl 1 rfl) ?_
          refine lv_iconst (pc := 87) (v := 0) hx hb dC_Fie_scatter_87 (by decide) ?_
          refine lv_iconst (pc := 88) (v := 5) hx hb dC_Fie_scatter_88 (by decide) ?_
          refine lv_bipush (pc := 89) (v := 7) hx hb dC_Fie_scatter_89 (by decide) ?_
          obtain ⟨r7, hr7, hM⟩ := cr_some hM
          refine x_callU (pc := 91) (ov := some (.int r7)) C (kC_Fie_pick l  x1 (0 : Int32) (5 : Int32) (7 : Int32) hr7) qc_1255 qc_1253 qc_1254 qc_35 ⟨by decide, by decide, by decide +kernel⟩ ⟨rfl, rfl⟩ ⟨Nat.le_of_ble_eq_true rfl, Nat.le_of_ble_eq_true rfl⟩ ⟨Nat.le_refl _, Nat.le_refl _⟩ (As := [.int x1, .int (0 : Int32), .int (5 : Int32), .int (7 : Int32)]) (n := 4) rfl hl.1 rfl (Nat.le_of_ble_eq_true rfl) dC_Fie_scatter_91 ?_
          refine lv_ior (pc := 94) hx hb dC_Fie_scatter_94 ?_
          obtain rfl := sm_i hM
          exact x_retS (pc := 95) C rfl dC_Fie_scatter_95
        · replace hM := it_f k1_3 hM
          by_cases k1_4 : x0 = (116 : Int32)
          · replace hM := it_t k1_4 hM
            refine lv_tableIn (pc := 1) (off := 100) (tgt := 101) hx hb dC_Fie_scatter_1 (by rw [k1_4]; decide) (by rw [k1_4]; decide) (by rw [k1_4]; decide) (by decide) ?_
            refine lv_iload_n (pc := 101) hx hb dC_Fie_scatter_101 rfl (lv_at hl 1 rfl) ?_
            refine lv_bipush (pc := 102) (v := 12) hx hb dC_Fie_scatter_102 (by decide) ?_
            refine lv_iconst (pc := 104) (v := 1) hx hb dC_Fie_scatter_104 (by decide) ?_
            refine lv_bipush (pc := 105) (v := 31) hx hb dC_Fie_scatter_105 (by decide) ?_
            obtain ⟨r8, hr8, hM⟩ := cr_some hM
            refine x_callU (pc := 107) (ov := some (.int r8)) C (kC_Fie_pick l  x1 (12 : Int32) (1 : Int32) (31 : Int32) hr8) qc_1255 qc_1253 qc_1254 qc_35 ⟨by decide, by decide, by decide +kernel⟩ ⟨rfl, rfl⟩ ⟨Nat.le_of_ble_eq_true rfl, Nat.le_of_ble_eq_true rfl⟩ ⟨Nat.le_refl _, Nat.le_refl _⟩ (As := [.int x1, .int (12 : Int32), .int (1 : Int32), .int (31 : Int32)]) (n := 4) rfl hl.1 rfl (Nat.le_of_ble_eq_true rfl) dC_Fie_scatter_107 ?_
            refine lv_iload_n (pc := 110) hx hb dC_Fie_scatter_110 rfl (lv_at hl 1 rfl) ?_
            refine lv_iconst (pc := 111) (v := 5) hx hb dC_Fie_scatter_111 (by decide) ?_
            refine lv_bipush (pc := 112) (v := 6) hx hb dC_Fie_scatter_112 (by decide) ?_
            refine lv_bipush (pc := 114) (v := 25) hx hb dC_Fie_scatter_114 (by decide) ?_
            obtain ⟨r9, hr9, hM⟩ := cr_some hM
            refine x_callU (pc := 116) (ov := some (.int r9)) C (kC_Fie_pick l  x1 (5 : Int32) (6 : Int32) (25 : Int32) hr9) qc_1255 qc_1253 qc_1254 qc_35 ⟨by decide, by decide, by decide +kernel⟩ ⟨rfl, rfl⟩ ⟨Nat.le_of_ble_eq_true rfl, Nat.le_of_ble_eq_true rfl⟩ ⟨Nat.le_refl _, Nat.le_refl _⟩ (As := [.int x1, .int (5 : Int32), .int (6 : Int32), .int (25 : Int32)]) (n := 4) rfl hl.1 rfl (Nat.le_of_ble_eq_true rfl) dC_Fie_scatter_116 ?_
            refine lv_ior (pc := 119) hx hb dC_Fie_scatter_119 ?_
            refine lv_iload_n (pc := 120) hx hb dC_Fie_scatter_120 rfl (lv_at hl 1 rfl) ?_
            refine lv_iconst (pc := 121) (v := 1) hx hb dC_Fie_scatter_121 (by decide) ?_
            refine lv_iconst (pc := 122) (v := 4) hx hb dC_Fie_scatter_122 (by decide) ?_
            refine lv_bipush (pc := 123) (v := 8) hx hb dC_Fie_scatter_123 (by decide) ?_
            obtain ⟨r10, hr10, hM⟩ := cr_some hM
            refine x_callU (pc := 125) (ov := some (.int r10)) C (kC_Fie_pick l  x1 (1 : Int32) (4 : Int32) (8 : Int32) hr10) qc_1255 qc_1253 qc_1254 qc_35 ⟨by decide, by decide, by decide +kernel⟩ ⟨rfl, rfl⟩ ⟨Nat.le_of_ble_eq_true rfl, Nat.le_of_ble_eq_true rfl⟩ ⟨Nat.le_refl _, Nat.le_refl _⟩ (As := [.int x1, .int (1 : Int32), .int (4 : Int32), .int (8 : Int32)]) (n := 4) rfl hl.1 rfl (Nat.le_of_ble_eq_true rfl) dC_Fie_scatter_125 ?_
            refine lv_ior (pc := 128) hx hb dC_Fie_scatter_128 ?_
            refine lv_iload_n (pc := 129) hx hb dC_Fie_scatter_129 rfl (lv_at hl 1 rfl) ?_
            refine lv_bipush (pc := 130) (v := 11) hx hb dC_Fie_scatter_130 (by decide) ?_
            refine lv_iconst (pc := 132) (v := 1) hx hb dC_Fie_scatter_132 (by decide) ?_
            refine lv_bipush (pc := 133) (v := 7) hx hb dC_Fie_scatter_133 (by decide) ?_
            obtain ⟨r11, hr11, hM⟩ := cr_some hM
            refine x_callU (pc := 135) (ov := some (.int r11)) C (kC_Fie_pick l  x1 (11 : Int32) (1 : Int32) (7 : Int32) hr11) qc_1255 qc_1253 qc_1254 qc_35 ⟨by decide, by decide, by decide +kernel⟩ ⟨rfl, rfl⟩ ⟨Nat.le_of_ble_eq_true rfl, Nat.le_of_ble_eq_true rfl⟩ ⟨Nat.le_refl _, Nat.le_refl _⟩ (As := [.int x1, .int (11 : Int32), .int (1 : Int32), .int (7 : Int32)]) (n := 4) rfl hl.1 rfl (Nat.le_of_ble_eq_true rfl) dC_Fie_scatter_135 ?_
            refine lv_ior (pc := 138) hx hb dC_Fie_scatter_138 ?_
            obtain rfl := sm_i hM
            exact x_retS (pc := 139) C rfl dC_Fie_scatter_139
          · replace hM := it_f k1_4 hM
            by_cases k1_5 : x0 = (117 : Int32)
            · replace hM := it_t k1_5 hM
              refine lv_tableIn (pc := 1) (off := 95) (tgt := 96) hx hb dC_Fie_scatter_1 (by rw [k1_5]; decide) (by rw [k1_5]; decide) (by rw [k1_5]; decide) (by decide) ?_
              refine lv_iload_n (pc := 96) hx hb dC_Fie_scatter_96 rfl (lv_at hl 1 rfl) ?_
              refine lv_bipush (pc := 97) (v := 12) hx hb dC_Fie_scatter_97 (by decide) ?_
              refine lv_ishl (pc := 99) hx hb dC_Fie_scatter_99 ?_
              obtain rfl := sm_i hM
              exact x_retS (pc := 100) C rfl dC_Fie_scatter_100
            · replace hM := it_f k1_5 hM
              by_cases k1_o : x0.toInt < 104 ∨ 117 < x0.toInt
              · refine lv_tableOut (pc := 1) (tgt := 181) hx hb dC_Fie_scatter_1 k1_o (by decide) ?_
                refine lv_iload_n (pc := 181) hx hb dC_Fie_scatter_181 rfl (lv_at hl 0 rfl) ?_
                refine lv_iload_n (pc := 182) hx hb dC_Fie_scatter_182 rfl (lv_at hl 1 rfl) ?_
                obtain ⟨r13, hr13, hM⟩ := cr_some hM
                refine x_callU (pc := 183) (ov := some (.int r13)) C (kC_Fie_scatterShort l  x0 x1 hr13) qc_1258 qc_1256 qc_1257 qc_35 ⟨by decide, by decide, by decide +kernel⟩ ⟨rfl, rfl⟩ ⟨Nat.le_of_ble_eq_true rfl, Nat.le_of_ble_eq_true rfl⟩ ⟨Nat.le_refl _, Nat.le_refl _⟩ (As := [.int x0, .int x1]) (n := 2) rfl hl.1 rfl (Nat.le_of_ble_eq_true rfl) dC_Fie_scatter_183 ?_
                obtain rfl := sm_i hM
                exact x_retS (pc := 186) C rfl dC_Fie_scatter_186
              · refine lv_tableIn (pc := 1) (off := 180) (tgt := 181) hx hb dC_Fie_scatter_1 (fun z => k1_o (Or.inl z)) (fun z => k1_o (Or.inr z)) (lv_tdef 14 [(104 : Int32), (105 : Int32), (106 : Int32), (111 : Int32), (116 : Int32), (117 : Int32)] (fun z => k1_o (Or.inl z)) (fun z => k1_o (Or.inr z)) (List.forall_mem_cons.mpr ⟨k1_0, (List.forall_mem_cons.mpr ⟨k1_1, (List.forall_mem_cons.mpr ⟨k1_2, (List.forall_mem_cons.mpr ⟨k1_3, (List.forall_mem_cons.mpr ⟨k1_4, (List.forall_mem_cons.mpr ⟨k1_5, (fun _ h => by cases h)⟩)⟩)⟩)⟩)⟩)⟩) (by decide) (by decide +kernel)) (by decide) ?_
                refine lv_iload_n (pc := 181) hx hb dC_Fie_scatter_181 rfl (lv_at hl 0 rfl) ?_
                refine lv_iload_n (pc := 182) hx hb dC_Fie_scatter_182 rfl (lv_at hl 1 rfl) ?_
                obtain ⟨r13, hr13, hM⟩ := cr_some hM
                refine x_callU (pc := 183) (ov := some (.int r13)) C (kC_Fie_scatterShort l  x0 x1 hr13) qc_1258 qc_1256 qc_1257 qc_35 ⟨by decide, by decide, by decide +kernel⟩ ⟨rfl, rfl⟩ ⟨Nat.le_of_ble_eq_true rfl, Nat.le_of_ble_eq_true rfl⟩ ⟨Nat.le_refl _, Nat.le_refl _⟩ (As := [.int x0, .int x1]) (n := 2) rfl hl.1 rfl (Nat.le_of_ble_eq_true rfl) dC_Fie_scatter_183 ?_
                obtain rfl := sm_i hM
                exact x_retS (pc := 186) C rfl dC_Fie_scatter_186
theorem kC_Fie_scatter (l : Launch) (x0 : Int32) (x1 : Int32) {r : Int32} (hM : C_Fie_scatter x0 x1 = some r) : KS l yC_Fie_scatter cC_Fie_scatter 2 (some .int) rm_Fie_scatter [.int x0, .int x1] (some (.int r)) := x_enterS (by decide +kernel) (Nat.le_of_ble_eq_true rfl) (fun p e s m args below meth c C ls hl => bC_Fie_scatter_0 C x0 x1 hM ls hl)
def C_Lex_isDigit_17 (t0 : Int32) : Option Int32 :=
  gd (isB t0) (some t0)
set_option maxHeartbeats 4000000 in
set_option maxRecDepth 100000 in
theorem bC_Lex_isDigit_17  {r : Int32} (C : CxS R_Lex p s m args meth c cC_Lex_isDigit 1 (some .boolean)) (t0 : Int32) (hM : C_Lex_isDigit_17  t0 = some r) (ls : Array Slot) (hl : lv_has ls 1 []) : W p l e rm_Lex_isDigit s m args below meth c s.heap [] 0 0 (MQ below (QS (some (.int r))) args s 0 0 (fun _ => False)) (F0 m 17 ls [.int t0]) := by
  have hx := C.1
  have hb := C.2.1
  have hown := C.2.2.2.2.1
  have hT := C.2.2.2.2.2.1
  unfold C_Lex_isDigit_17 at hM
  obtain ⟨hg1, hM⟩ := gd_some hM
  obtain rfl := sm_i hM
  exact x_retSz (pc := 17) C rfl hg1 dC_Lex_isDigit_17
def C_Lex_isDigit_16  : Option Int32 :=
  C_Lex_isDigit_17  (0 : Int32)
set_option maxHeartbeats 4000000 in
set_option maxRecDepth 100000 in
theorem bC_Lex_isDigit_16  {r : Int32} (C : CxS R_Lex p s m args meth c cC_Lex_isDigit 1 (some .boolean))  (hM : C_Lex_isDigit_16   = some r) (ls : Array Slot) (hl : lv_has ls 1 []) : W p l e rm_Lex_isDigit s m args below meth c s.heap [] 0 0 (MQ below (QS (some (.int r))) args s 0 0 (fun _ => False)) (F0 m 16 ls []) := by
  have hx := C.1
  have hb := C.2.1
  have hown := C.2.2.2.2.1
  have hT := C.2.2.2.2.2.1
  unfold C_Lex_isDigit_16 at hM
  refine lv_iconst (pc := 16) (v := 0) hx hb dC_Lex_isDigit_16 (by decide) ?_
  exact bC_Lex_isDigit_17  C  _ hM _ (lv_sub hl [] rfl)
def C_Lex_isDigit (x0 : Int32) : Option Int32 :=
  (if x0 < (48 : Int32) then C_Lex_isDigit_16   else (if (57 : Int32) < x0 then C_Lex_isDigit_16   else C_Lex_isDigit_17  (1 : Int32)))
set_option maxHeartbeats 4000000 in
set_option maxRecDepth 100000 in
theorem bC_Lex_isDigit_0  {r : Int32} (C : CxS R_Lex p s m args meth c cC_Lex_isDigit 1 (some .boolean)) (x0 : Int32) (hM : C_Lex_isDigit  x0 = some r) (ls : Array Slot) (hl : lv_has ls 1 [(0, .int x0)]) : W p l e rm_Lex_isDigit s m args below meth c s.heap [] 0 0 (MQ below (QS (some (.int r))) args s 0 0 (fun _ => False)) (F0 m 0 ls []) := by
  have hx := C.1
  have hb := C.2.1
  have hown := C.2.2.2.2.1
  have hT := C.2.2.2.2.2.1
  unfold C_Lex_isDigit at hM
  refine lv_iload_n (pc := 0) hx hb dC_Lex_isDigit_0 rfl (lv_at hl 0 rfl) ?_
  refine lv_bipush (pc := 1) (v := 48) hx hb dC_Lex_isDigit_1 (by decide) ?_
  refine lv_icmp_lt (pc := 3) (tgt := 16) hx hb dC_Lex_isDigit_3 (by decide) (fun hc => ?_) (fun hc => ?_)
  · replace hM := it_t hc hM
    exact bC_Lex_isDigit_16  C   hM _ (lv_sub hl [] rfl)
  · replace hM := it_f hc hM
    refine lv_iload_n (pc := 6) hx hb dC_Lex_isDigit_6 rfl (lv_at hl 0 rfl) ?_
    refine lv_bipush (pc := 7) (v := 57) hx hb dC_Lex_isDigit_7 (by decide) ?_
    refine lv_icmp_gt (pc := 9) (tgt := 16) hx hb dC_Lex_isDigit_9 (by decide) (fun hc => ?_) (fun hc => ?_)
    · replace hM := it_t hc hM
      exact bC_Lex_isDigit_16  C   hM _ (lv_sub hl [] rfl)
    · replace hM := it_f hc hM
      refine lv_iconst (pc := 12) (v := 1) hx hb dC_Lex_isDigit_12 (by decide) ?_
      refine lv_goto (pc := 13) (tgt := 17) hx hb dC_Lex_isDigit_13 (by decide) ?_
      exact bC_Lex_isDigit_17  C  _ hM _ (lv_sub hl [] rfl)
theorem kC_Lex_isDigit (l : Launch) (x0 : Int32) {r : Int32} (hM : C_Lex_isDigit x0 = some r) : KS l yC_Lex_isDigit cC_Lex_isDigit 1 (some .boolean) rm_Lex_isDigit [.int x0] (some (.int r)) := x_enterS (by decide +kernel) (Nat.le_of_ble_eq_true rfl) (fun p e s m args below meth c C ls hl => bC_Lex_isDigit_0 C x0 hM ls hl)
def C_Lex_isOfName_54 (t0 : Int32) : Option Int32 :=
  gd (isB t0) (some t0)
set_option maxHeartbeats 4000000 in
set_option maxRecDepth 100000 in
theorem bC_Lex_isOfName_54  {r : Int32} (C : CxS R_Lex p s m args meth c cC_Lex_isOfName 1 (some .boolean)) (t0 : Int32) (hM : C_Lex_isOfName_54  t0 = some r) (ls : Array Slot) (hl : lv_has ls 1 []) : W p l e rm_Lex_isOfName s m args below meth c s.heap [] 0 0 (MQ below (QS (some (.int r))) args s 0 0 (fun _ => False)) (F0 m 54 ls [.int t0]) := by
  have hx := C.1
  have hb := C.2.1
  have hown := C.2.2.2.2.1
  have hT := C.2.2.2.2.2.1
  unfold C_Lex_isOfName_54 at hM
  obtain ⟨hg1, hM⟩ := gd_some hM
  obtain rfl := sm_i hM
  exact x_retSz (pc := 54) C rfl hg1 dC_Lex_isOfName_54
def C_Lex_isOfName_49  : Option Int32 :=
  C_Lex_isOfName_54  (1 : Int32)
set_option maxHeartbeats 4000000 in
set_option maxRecDepth 100000 in
theorem bC_Lex_isOfName_49  {r : Int32} (C : CxS R_Lex p s m args meth c cC_Lex_isOfName 1 (some .boolean))  (hM : C_Lex_isOfName_49   = some r) (ls : Array Slot) (hl : lv_has ls 1 []) : W p l e rm_Lex_isOfName s m args below meth c s.heap [] 0 0 (MQ below (QS (some (.int r))) args s 0 0 (fun _ => False)) (F0 m 49 ls []) := by
  have hx := C.1
  have hb := C.2.1
  have hown := C.2.2.2.2.1
  have hT := C.2.2.2.2.2.1
  unfold C_Lex_isOfName_49 at hM
  refine lv_iconst (pc := 49) (v := 1) hx hb dC_Lex_isOfName_49 (by decide) ?_
  refine lv_goto (pc := 50) (tgt := 54) hx hb dC_Lex_isOfName_50 (by decide) ?_
  exact bC_Lex_isOfName_54  C  _ hM _ (lv_sub hl [] rfl)
def C_Lex_isOfName_31 (x0 : Int32) : Option Int32 :=
  (if x0 = (95 : Int32) then C_Lex_isOfName_49   else (if x0 = (46 : Int32) then C_Lex_isOfName_49   else (if x0 = (36 : Int32) then C_Lex_isOfName_49   else C_Lex_isOfName_54  (0 : Int32))))
set_option maxHeartbeats 4000000 in
set_option maxRecDepth 100000 in
theorem bC_Lex_isOfName_31  {r : Int32} (C : CxS R_Lex p s m args meth c cC_Lex_isOfName 1 (some .boolean)) (x0 : Int32) (hM : C_Lex_isOfName_31  x0 = some r) (ls : Array Slot) (hl : lv_has ls 1 [(0, .int x0)]) : W p l e rm_Lex_isOfName s m args below meth c s.heap [] 0 0 (MQ below (QS (some (.int r))) args s 0 0 (fun _ => False)) (F0 m 31 ls []) := by
  have hx := C.1
  have hb := C.2.1
  have hown := C.2.2.2.2.1
  have hT := C.2.2.2.2.2.1
  unfold C_Lex_isOfName_31 at hM
  refine lv_iload_n (pc := 31) hx hb dC_Lex_isOfName_31 rfl (lv_at hl 0 rfl) ?_
  refine lv_bipush (pc := 32) (v := 95) hx hb dC_Lex_isOfName_32 (by decide) ?_
  refine lv_icmp_eq (pc := 34) (tgt := 49) hx hb dC_Lex_isOfName_34 (by decide) (fun hc => ?_) (fun hc => ?_)
  · replace hM := it_t hc hM
    exact bC_Lex_isOfName_49  C   hM _ (lv_sub hl [] rfl)
  · replace hM := it_f hc hM
    refine lv_iload_n (pc := 37) hx hb dC_Lex_isOfName_37 rfl (lv_at hl 0 rfl) ?_
    refine lv_bipush (pc := 38) (v := 46) hx hb dC_Lex_isOfName_38 (by decide) ?_
    refine lv_icmp_eq (pc := 40) (tgt := 49) hx hb dC_Lex_isOfName_40 (by decide) (fun hc => ?_) (fun hc => ?_)
    · replace hM := it_t hc hM
      exact bC_Lex_isOfName_49  C   hM _ (lv_sub hl [] rfl)
    · replace hM := it_f hc hM
      refine lv_iload_n (pc := 43) hx hb dC_Lex_isOfName_43 rfl (lv_at hl 0 rfl) ?_
      refine lv_bipush (pc := 44) (v := 36) hx hb dC_Lex_isOfName_44 (by decide) ?_
      refine lv_icmp_ne (pc := 46) (tgt := 53) hx hb dC_Lex_isOfName_46 (by decide) (fun hc => ?_) (fun hc => ?_)
      · replace hM := it_f hc hM
        refine lv_iconst (pc := 53) (v := 0) hx hb dC_Lex_isOfName_53 (by decide) ?_
        exact bC_Lex_isOfName_54  C  _ hM _ (lv_sub hl [] rfl)
      · replace hM := it_t hc hM
        exact bC_Lex_isOfName_49  C   hM _ (lv_sub hl [] rfl)
def C_Lex_isOfName_19 (x0 : Int32) : Option Int32 :=
  (if x0 < (65 : Int32) then C_Lex_isOfName_31  x0 else (if x0 ≤ (90 : Int32) then C_Lex_isOfName_49   else C_Lex_isOfName_31  x0))
set_option maxHeartbeats 4000000 in
set_option maxRecDepth 100000 in
theorem bC_Lex_isOfName_19  {r : Int32} (C : CxS R_Lex p s m args meth c cC_Lex_isOfName 1 (some .boolean)) (x0 : Int32) (hM : C_Lex_isOfName_19  x0 = some r) (ls : Array Slot) (hl : lv_has ls 1 [(0, .int x0)]) : W p l e rm_Lex_isOfName s m args below meth c s.heap [] 0 0 (MQ below (QS (some (.int r))) args s 0 0 (fun _ => False)) (F0 m 19 ls []) := by
  have hx := C.1
  have hb := C.2.1
  have hown := C.2.2.2.2.1
  have hT := C.2.2.2.2.2.1
  unfold C_Lex_isOfName_19 at hM
  refine lv_iload_n (pc := 19) hx hb dC_Lex_isOfName_19 rfl (lv_at hl 0 rfl) ?_
  refine lv_bipush (pc := 20) (v := 65) hx hb dC_Lex_isOfName_20 (by decide) ?_
  refine lv_icmp_lt (pc := 22) (tgt := 31) hx hb dC_Lex_isOfName_22 (by decide) (fun hc => ?_) (fun hc => ?_)
  · replace hM := it_t hc hM
    exact bC_Lex_isOfName_31  C  _ hM _ (lv_sub hl [0] rfl)
  · replace hM := it_f hc hM
    refine lv_iload_n (pc := 25) hx hb dC_Lex_isOfName_25 rfl (lv_at hl 0 rfl) ?_
    refine lv_bipush (pc := 26) (v := 90) hx hb dC_Lex_isOfName_26 (by decide) ?_
    refine lv_icmp_le (pc := 28) (tgt := 49) hx hb dC_Lex_isOfName_28 (by decide) (fun hc => ?_) (fun hc => ?_)
    · replace hM := it_t hc hM
      exact bC_Lex_isOfName_49  C   hM _ (lv_sub hl [] rfl)
    · replace hM := it_f hc hM
      exact bC_Lex_isOfName_31  C  _ hM _ (lv_sub hl [0] rfl)
def C_Lex_isOfName (x0 : Int32) : Option Int32 :=
  cr (C_Lex_isDigit  x0) (fun r1 => (if r1 = 0 then (if x0 < (97 : Int32) then C_Lex_isOfName_19  x0 else (if x0 ≤ (122 : Int32) then C_Lex_isOfName_49   else C_Lex_isOfName_19  x0)) else C_Lex_isOfName_49  ))
set_option maxHeartbeats 4000000 in
set_option maxRecDepth 100000 in
theorem bC_Lex_isOfName_0  {r : Int32} (C : CxS R_Lex p s m args meth c cC_Lex_isOfName 1 (some .boolean)) (x0 : Int32) (hM : C_Lex_isOfName  x0 = some r) (ls : Array Slot) (hl : lv_has ls 1 [(0, .int x0)]) : W p l e rm_Lex_isOfName s m args below meth c s.heap [] 0 0 (MQ below (QS (some (.int r))) args s 0 0 (fun _ => False)) (F0 m 0 ls []) := by
  have hx := C.1
  have hb := C.2.1
  have hown := C.2.2.2.2.1
  have hT := C.2.2.2.2.2.1
  unfold C_Lex_isOfName at hM
  refine lv_iload_n (pc := 0) hx hb dC_Lex_isOfName_0 rfl (lv_at hl 0 rfl) ?_
  obtain ⟨r1, hr1, hM⟩ := cr_some hM
  refine x_callU (pc := 1) (ov := some (.int r1)) C (kC_Lex_isDigit l  x0 hr1) qc_1020 qc_1018 qc_1019 qc_19 ⟨by decide, by decide, by decide +kernel⟩ ⟨rfl, rfl⟩ ⟨Nat.le_of_ble_eq_true rfl, Nat.le_of_ble_eq_true rfl⟩ ⟨Nat.le_refl _, Nat.le_refl _⟩ (As := [.int x0]) (n := 1) rfl hl.1 rfl (Nat.le_of_ble_eq_true rfl) dC_Lex_isOfName_1 ?_
  refine lv_if_ne (pc := 4) (tgt := 49) hx hb dC_Lex_isOfName_4 (by decide) (fun hc => ?_) (fun hc => ?_)
  · replace hM := it_f hc hM
    exact bC_Lex_isOfName_49  C   hM _ (lv_sub hl [] rfl)
  · replace hM := it_t hc hM
    refine lv_iload_n (pc := 7) hx hb dC_Lex_isOfName_7 rfl (lv_at hl 0 rfl) ?_
    refine lv_bipush (pc := 8) (v := 97) hx hb dC_Lex_isOfName_8 (by decide) ?_
    refine lv_icmp_lt (pc := 10) (tgt := 19) hx hb dC_Lex_isOfName_10 (by decide) (fun hc => ?_) (fun hc => ?_)
    · replace hM := it_t hc hM
      exact bC_Lex_isOfName_19  C  _ hM _ (lv_sub hl [0] rfl)
    · replace hM := it_f hc hM
      refine lv_iload_n (pc := 13) hx hb dC_Lex_isOfName_13 rfl (lv_at hl 0 rfl) ?_
      refine lv_bipush (pc := 14) (v := 122) hx hb dC_Lex_isOfName_14 (by decide) ?_
      refine lv_icmp_le (pc := 16) (tgt := 49) hx hb dC_Lex_isOfName_16 (by decide) (fun hc => ?_) (fun hc => ?_)
      · replace hM := it_t hc hM
        exact bC_Lex_isOfName_49  C   hM _ (lv_sub hl [] rfl)
      · replace hM := it_f hc hM
        exact bC_Lex_isOfName_19  C  _ hM _ (lv_sub hl [0] rfl)
theorem kC_Lex_isOfName (l : Launch) (x0 : Int32) {r : Int32} (hM : C_Lex_isOfName x0 = some r) : KS l yC_Lex_isOfName cC_Lex_isOfName 1 (some .boolean) rm_Lex_isOfName [.int x0] (some (.int r)) := x_enterS (by decide +kernel) (Nat.le_of_ble_eq_true rfl) (fun p e s m args below meth c C ls hl => bC_Lex_isOfName_0 C x0 hM ls hl)
def C_Lex_digit_56 (t0 : Int32) : Option Int32 :=
  some t0
set_option maxHeartbeats 4000000 in
set_option maxRecDepth 100000 in
theorem bC_Lex_digit_56  {r : Int32} (C : CxS R_Lex p s m args meth c cC_Lex_digit 1 (some .int)) (t0 : Int32) (hM : C_Lex_digit_56  t0 = some r) (ls : Array Slot) (hl : lv_has ls 1 []) : W p l e rm_Lex_digit s m args below meth c s.heap [] 0 0 (MQ below (QS (some (.int r))) args s 0 0 (fun _ => False)) (F0 m 56 ls [.int t0]) := by
  have hx := C.1
  have hb := C.2.1
  have hown := C.2.2.2.2.1
  have hT := C.2.2.2.2.2.1
  unfold C_Lex_digit_56 at hM
  obtain rfl := sm_i hM
  exact x_retS (pc := 56) C rfl dC_Lex_digit_56
def C_Lex_digit_54  : Option Int32 :=
  C_Lex_digit_56  (99 : Int32)
set_option maxHeartbeats 4000000 in
set_option maxRecDepth 100000 in
theorem bC_Lex_digit_54  {r : Int32} (C : CxS R_Lex p s m args meth c cC_Lex_digit 1 (some .int))  (hM : C_Lex_digit_54   = some r) (ls : Array Slot) (hl : lv_has ls 1 []) : W p l e rm_Lex_digit s m args below meth c s.heap [] 0 0 (MQ below (QS (some (.int r))) args s 0 0 (fun _ => False)) (F0 m 54 ls []) := by
  have hx := C.1
  have hb := C.2.1
  have hown := C.2.2.2.2.1
  have hT := C.2.2.2.2.2.1
  unfold C_Lex_digit_54 at hM
  refine lv_bipush (pc := 54) (v := 99) hx hb dC_Lex_digit_54 (by decide) ?_
  exact bC_Lex_digit_56  C  _ hM _ (lv_sub hl [] rfl)
def C_Lex_digit_32 (x0 : Int32) : Option Int32 :=
  (if x0 < (65 : Int32) then C_Lex_digit_54   else (if (70 : Int32) < x0 then C_Lex_digit_54   else C_Lex_digit_56  ((x0 - (65 : Int32)) + (10 : Int32))))
set_option maxHeartbeats 4000000 in
set_option maxRecDepth 100000 in
theorem bC_Lex_digit_32  {r : Int32} (C : CxS R_Lex p s m args meth c cC_Lex_digit 1 (some .int)) (x0 : Int32) (hM : C_Lex_digit_32  x0 = some r) (ls : Array Slot) (hl : lv_has ls 1 [(0, .int x0)]) : W p l e rm_Lex_digit s m args below meth c s.heap [] 0 0 (MQ below (QS (some (.int r))) args s 0 0 (fun _ => False)) (F0 m 32 ls []) := by
  have hx := C.1
  have hb := C.2.1
  have hown := C.2.2.2.2.1
  have hT := C.2.2.2.2.2.1
  unfold C_Lex_digit_32 at hM
  refine lv_iload_n (pc := 32) hx hb dC_Lex_digit_32 rfl (lv_at hl 0 rfl) ?_
  refine lv_bipush (pc := 33) (v := 65) hx hb dC_Lex_digit_33 (by decide) ?_
  refine lv_icmp_lt (pc := 35) (tgt := 54) hx hb dC_Lex_digit_35 (by decide) (fun hc => ?_) (fun hc => ?_)
  · replace hM := it_t hc hM
    exact bC_Lex_digit_54  C   hM _ (lv_sub hl [] rfl)
  · replace hM := it_f hc hM
    refine lv_iload_n (pc := 38) hx hb dC_Lex_digit_38 rfl (lv_at hl 0 rfl) ?_
    refine lv_bipush (pc := 39) (v := 70) hx hb dC_Lex_digit_39 (by decide) ?_
    refine lv_icmp_gt (pc := 41) (tgt := 54) hx hb dC_Lex_digit_41 (by decide) (fun hc => ?_) (fun hc => ?_)
    · replace hM := it_t hc hM
      exact bC_Lex_digit_54  C   hM _ (lv_sub hl [] rfl)
    · replace hM := it_f hc hM
      refine lv_iload_n (pc := 44) hx hb dC_Lex_digit_44 rfl (lv_at hl 0 rfl) ?_
      refine lv_bipush (pc := 45) (v := 65) hx hb dC_Lex_digit_45 (by decide) ?_
      refine lv_isub (pc := 47) hx hb dC_Lex_digit_47 ?_
      refine lv_bipush (pc := 48) (v := 10) hx hb dC_Lex_digit_48 (by decide) ?_
      refine lv_iadd (pc := 50) hx hb dC_Lex_digit_50 ?_
      refine lv_goto (pc := 51) (tgt := 56) hx hb dC_Lex_digit_51 (by decide) ?_
      exact bC_Lex_digit_56  C  _ hM _ (lv_sub hl [] rfl)
def C_Lex_digit (x0 : Int32) : Option Int32 :=
  cr (C_Lex_isDigit  x0) (fun r1 => (if r1 = 0 then (if x0 < (97 : Int32) then C_Lex_digit_32  x0 else (if (102 : Int32) < x0 then C_Lex_digit_32  x0 else some ((x0 - (97 : Int32)) + (10 : Int32)))) else some (x0 - (48 : Int32))))
set_option maxHeartbeats 4000000 in
set_option maxRecDepth 100000 in
theorem bC_Lex_digit_0  {r : Int32} (C : CxS R_Lex p s m args meth c cC_Lex_digit 1 (some .int)) (x0 : Int32) (hM : C_Lex_digit  x0 = some r) (ls : Array Slot) (hl : lv_has ls 1 [(0, .int x0)]) : W p l e rm_Lex_digit s m args below meth c s.heap [] 0 0 (MQ below (QS (some (.int r))) args s 0 0 (fun _ => False)) (F0 m 0 ls []) := by
  have hx := C.1
  have hb := C.2.1
  have hown := C.2.2.2.2.1
  have hT := C.2.2.2.2.2.1
  unfold C_Lex_digit at hM
  refine lv_iload_n (pc := 0) hx hb dC_Lex_digit_0 rfl (lv_at hl 0 rfl) ?_
  obtain ⟨r1, hr1, hM⟩ := cr_some hM
  refine x_callU (pc := 1) (ov := some (.int r1)) C (kC_Lex_isDigit l  x0 hr1) qc_1020 qc_1018 qc_1019 qc_19 ⟨by decide, by decide, by decide +kernel⟩ ⟨rfl, rfl⟩ ⟨Nat.le_of_ble_eq_true rfl, Nat.le_of_ble_eq_true rfl⟩ ⟨Nat.le_refl _, Nat.le_refl _⟩ (As := [.int x0]) (n := 1) rfl hl.1 rfl (Nat.le_of_ble_eq_true rfl) dC_Lex_digit_1 ?_
  refine lv_if_eq (pc := 4) (tgt := 12) hx hb dC_Lex_digit_4 (by decide) (fun hc => ?_) (fun hc => ?_)
  · replace hM := it_t hc hM
    refine lv_iload_n (pc := 12) hx hb dC_Lex_digit_12 rfl (lv_at hl 0 rfl) ?_
    refine lv_bipush (pc := 13) (v := 97) hx hb dC_Lex_digit_13 (by decide) ?_
    refine lv_icmp_lt (pc := 15) (tgt := 32) hx hb dC_Lex_digit_15 (by decide) (fun hc => ?_) (fun hc => ?_)
    · replace hM := it_t hc hM
      exact bC_Lex_digit_32  C  _ hM _ (lv_sub hl [0] rfl)
    · replace hM := it_f hc hM
      refine lv_iload_n (pc := 18) hx hb dC_Lex_digit_18 rfl (lv_at hl 0 rfl) ?_
      refine lv_bipush (pc := 19) (v := 102) hx hb dC_Lex_digit_19 (by decide) ?_
      refine lv_icmp_gt (pc := 21) (tgt := 32) hx hb dC_Lex_digit_21 (by decide) (fun hc => ?_) (fun hc => ?_)
      · replace hM := it_t hc hM
        exact bC_Lex_digit_32  C  _ hM _ (lv_sub hl [0] rfl)
      · replace hM := it_f hc hM
        refine lv_iload_n (pc := 24) hx hb dC_Lex_digit_24 rfl (lv_at hl 0 rfl) ?_
        refine lv_bipush (pc := 25) (v := 97) hx hb dC_Lex_digit_25 (by decide) ?_
        refine lv_isub (pc := 27) hx hb dC_Lex_digit_27 ?_
        refine lv_bipush (pc := 28) (v := 10) hx hb dC_Lex_digit_28 (by decide) ?_
        refine lv_iadd (pc := 30) hx hb dC_Lex_digit_30 ?_
        obtain rfl := sm_i hM
        exact x_retS (pc := 31) C rfl dC_Lex_digit_31
  · replace hM := it_f hc hM
    refine lv_iload_n (pc := 7) hx hb dC_Lex_digit_7 rfl (lv_at hl 0 rfl) ?_
    refine lv_bipush (pc := 8) (v := 48) hx hb dC_Lex_digit_8 (by decide) ?_
    refine lv_isub (pc := 10) hx hb dC_Lex_digit_10 ?_
    obtain rfl := sm_i hM
    exact x_retS (pc := 11) C rfl dC_Lex_digit_11
theorem kC_Lex_digit (l : Launch) (x0 : Int32) {r : Int32} (hM : C_Lex_digit x0 = some r) : KS l yC_Lex_digit cC_Lex_digit 1 (some .int) rm_Lex_digit [.int x0] (some (.int r)) := x_enterS (by decide +kernel) (Nat.le_of_ble_eq_true rfl) (fun p e s m args below meth c C ls hl => bC_Lex_digit_0 C x0 hM ls hl)
def C_Frm_level_124  : Option Int32 :=
  some (7 : Int32)
set_option maxHeartbeats 4000000 in
set_option maxRecDepth 100000 in
theorem bC_Frm_level_124  {r : Int32} (C : CxS R_Frm p s m args meth c cC_Frm_level 1 (some .int))  (hM : C_Frm_level_124   = some r) (ls : Array Slot) (hl : lv_has ls 1 []) : W p l e rm_Frm_level s m args below meth c s.heap [] 0 0 (MQ below (QS (some (.int r))) args s 0 0 (fun _ => False)) (F0 m 124 ls []) := by
  have hx := C.1
  have hb := C.2.1
  have hown := C.2.2.2.2.1
  have hT := C.2.2.2.2.2.1
  unfold C_Frm_level_124 at hM
  refine lv_bipush (pc := 124) (v := 7) hx hb dC_Frm_level_124 (by decide) ?_
  obtain rfl := sm_i hM
  exact x_retS (pc := 126) C rfl dC_Frm_level_126
def C_Frm_level_127  : Option Int32 :=
  some (6 : Int32)
set_option maxHeartbeats 4000000 in
set_option maxRecDepth 100000 in
theorem bC_Frm_level_127  {r : Int32} (C : CxS R_Frm p s m args meth c cC_Frm_level 1 (some .int))  (hM : C_Frm_level_127   = some r) (ls : Array Slot) (hl : lv_has ls 1 []) : W p l e rm_Frm_level s m args below meth c s.heap [] 0 0 (MQ below (QS (some (.int r))) args s 0 0 (fun _ => False)) (F0 m 127 ls []) := by
  have hx := C.1
  have hb := C.2.1
  have hown := C.2.2.2.2.1
  have hT := C.2.2.2.2.2.1
  unfold C_Frm_level_127 at hM
  refine lv_bipush (pc := 127) (v := 6) hx hb dC_Frm_level_127 (by decide) ?_
  obtain rfl := sm_i hM
  exact x_retS (pc := 129) C rfl dC_Frm_level_129
def C_Frm_level_130  : Option Int32 :=
  some (5 : Int32)
set_option maxHeartbeats 4000000 in
set_option maxRecDepth 100000 in
theorem bC_Frm_level_130  {r : Int32} (C : CxS R_Frm p s m args meth c cC_Frm_level 1 (some .int))  (hM : C_Frm_level_130   = some r) (ls : Array Slot) (hl : lv_has ls 1 []) : W p l e rm_Frm_level s m args below meth c s.heap [] 0 0 (MQ below (QS (some (.int r))) args s 0 0 (fun _ => False)) (F0 m 130 ls []) := by
  have hx := C.1
  have hb := C.2.1
  have hown := C.2.2.2.2.1
  have hT := C.2.2.2.2.2.1
  unfold C_Frm_level_130 at hM
  refine lv_iconst (pc := 130) (v := 5) hx hb dC_Frm_level_130 (by decide) ?_
  obtain rfl := sm_i hM
  exact x_retS (pc := 131) C rfl dC_Frm_level_131
def C_Frm_level_132  : Option Int32 :=
  some (4 : Int32)
set_option maxHeartbeats 4000000 in
set_option maxRecDepth 100000 in
theorem bC_Frm_level_132  {r : Int32} (C : CxS R_Frm p s m args meth c cC_Frm_level 1 (some .int))  (hM : C_Frm_level_132   = some r) (ls : Array Slot) (hl : lv_has ls 1 []) : W p l e rm_Frm_level s m args below meth c s.heap [] 0 0 (MQ below (QS (some (.int r))) args s 0 0 (fun _ => False)) (F0 m 132 ls []) := by
  have hx := C.1
  have hb := C.2.1
  have hown := C.2.2.2.2.1
  have hT := C.2.2.2.2.2.1
  unfold C_Frm_level_132 at hM
  refine lv_iconst (pc := 132) (v := 4) hx hb dC_Frm_level_132 (by decide) ?_
  obtain rfl := sm_i hM
  exact x_retS (pc := 133) C rfl dC_Frm_level_133
def C_Frm_level (x0 : Int32) : Option Int32 :=
  (if x0 = (10 : Int32) then C_Frm_level_124   else (if x0 = (11 : Int32) then C_Frm_level_124   else (if x0 = (12 : Int32) then C_Frm_level_124   else (if x0 = (13 : Int32) then C_Frm_level_124   else (if x0 = (37 : Int32) then C_Frm_level_127   else (if x0 = (38 : Int32) then some (3 : Int32) else (if x0 = (42 : Int32) then C_Frm_level_127   else (if x0 = (43 : Int32) then C_Frm_level_130   else (if x0 = (45 : Int32) then C_Frm_level_130   else (if x0 = (47 : Int32) then C_Frm_level_127   else (if x0 = (60 : Int32) then C_Frm_level_132   else (if x0 = (62 : Int32) then C_Frm_level_132   else (if x0 = (94 : Int32) then some (2 : Int32) else (if x0 = (124 : Int32) then some (1 : Int32) else some (0 : Int32)))))))))))))))
set_option maxHeartbeats 4000000 in
set_option maxRecDepth 100000 in
theorem bC_Frm_level_0  {r : Int32} (C : CxS R_Frm p s m args meth c cC_Frm_level 1 (some .int)) (x0 : Int32) (hM : C_Frm_level  x0 = some r) (ls : Array Slot) (hl : lv_has ls 1 [(0, .int x0)]) : W p l e rm_Frm_level s m args below meth c s.heap [] 0 0 (MQ below (QS (some (.int r))) args s 0 0 (fun _ => False)) (F0 m 0 ls []) := by
  have hx := C.1
  have hb := C.2.1
  have hown := C.2.2.2.2.1
  have hT := C.2.2.2.2.2.1
  unfold C_Frm_level at hM
  refine lv_iload_n (pc := 0) hx hb dC_Frm_level_0 rfl (lv_at hl 0 rfl) ?_
  by_cases k1_0 : x0 = (10 : Int32)
  · replace hM := it_t k1_0 hM
    refine lv_lookup (pc := 1) (off := 123) (tgt := 124) hx hb dC_Frm_level_1 (by decide) (by rw [k1_0]; decide) (by decide) ?_
    exact bC_Frm_level_124  C   hM _ (lv_sub hl [] rfl)
  · replace hM := it_f k1_0 hM
    by_cases k1_1 : x0 = (11 : Int32)
    · replace hM := it_t k1_1 hM
      refine lv_lookup (pc := 1) (off := 123) (tgt := 124) hx hb dC_Frm_level_1 (by decide) (by rw [k1_1]; decide) (by decide) ?_
      exact bC_Frm_level_124  C   hM _ (lv_sub hl [] rfl)
    · replace hM := it_f k1_1 hM
      by_cases k1_2 : x0 = (12 : Int32)
      · replace hM := it_t k1_2 hM
        refine lv_lookup (pc := 1) (off := 123) (tgt := 124) hx hb dC_Frm_level_1 (by decide) (by rw [k1_2]; decide) (by decide) ?_
        exact bC_Frm_level_124  C   hM _ (lv_sub hl [] rfl)
      · replace hM := it_f k1_2 hM
        by_cases k1_3 : x0 = (13 : Int32)
        · replace hM := it_t k1_3 hM
          refine lv_lookup (pc := 1) (off := 123) (tgt := 124) hx hb dC_Frm_level_1 (by decide) (by rw [k1_3]; decide) (by decide) ?_
          exact bC_Frm_level_124  C   hM _ (lv_sub hl [] rfl)
        · replace hM := it_f k1_3 hM
          by_cases k1_4 : x0 = (37 : Int32)
          · replace hM := it_t k1_4 hM
            refine lv_lookup (pc := 1) (off := 126) (tgt := 127) hx hb dC_Frm_level_1 (by decide) (by rw [k1_4]; decide) (by decide) ?_
            exact bC_Frm_level_127  C   hM _ (lv_sub hl [] rfl)
          · replace hM := it_f k1_4 hM
            by_cases k1_5 : x0 = (38 : Int32)
            · replace hM := it_t k1_5 hM
              refine lv_lookup (pc := 1) (off := 133) (tgt := 134) hx hb dC_Frm_level_1 (by decide) (by rw [k1_5]; decide) (by decide) ?_
              refine lv_iconst (pc := 134) (v := 3) hx hb dC_Frm_level_134 (by decide) ?_
              obtain rfl := sm_i hM
              exact x_retS (pc := 135) C rfl dC_Frm_level_135
            · replace hM := it_f k1_5 hM
              by_cases k1_6 : x0 = (42 : Int32)
              · replace hM := it_t k1_6 hM
                refine lv_lookup (pc := 1) (off := 126) (tgt := 127) hx hb dC_Frm_level_1 (by decide) (by rw [k1_6]; decide) (by decide) ?_
                exact bC_Frm_level_127  C   hM _ (lv_sub hl [] rfl)
              · replace hM := it_f k1_6 hM
                by_cases k1_7 : x0 = (43 : Int32)
                · replace hM := it_t k1_7 hM
                  refine lv_lookup (pc := 1) (off := 129) (tgt := 130) hx hb dC_Frm_level_1 (by decide) (by rw [k1_7]; decide) (by decide) ?_
                  exact bC_Frm_level_130  C   hM _ (lv_sub hl [] rfl)
                · replace hM := it_f k1_7 hM
                  by_cases k1_8 : x0 = (45 : Int32)
                  · replace hM := it_t k1_8 hM
                    refine lv_lookup (pc := 1) (off := 129) (tgt := 130) hx hb dC_Frm_level_1 (by decide) (by rw [k1_8]; decide) (by decide) ?_
                    exact bC_Frm_level_130  C   hM _ (lv_sub hl [] rfl)
                  · replace hM := it_f k1_8 hM
                    by_cases k1_9 : x0 = (47 : Int32)
                    · replace hM := it_t k1_9 hM
                      refine lv_lookup (pc := 1) (off := 126) (tgt := 127) hx hb dC_Frm_level_1 (by decide) (by rw [k1_9]; decide) (by decide) ?_
                      exact bC_Frm_level_127  C   hM _ (lv_sub hl [] rfl)
                    · replace hM := it_f k1_9 hM
                      by_cases k1_10 : x0 = (60 : Int32)
                      · replace hM := it_t k1_10 hM
                        refine lv_lookup (pc := 1) (off := 131) (tgt := 132) hx hb dC_Frm_level_1 (by decide) (by rw [k1_10]; decide) (by decide) ?_
                        exact bC_Frm_level_132  C   hM _ (lv_sub hl [] rfl)
                      · replace hM := it_f k1_10 hM
                        by_cases k1_11 : x0 = (62 : Int32)
                        · replace hM := it_t k1_11 hM
                          refine lv_lookup (pc := 1) (off := 131) (tgt := 132) hx hb dC_Frm_level_1 (by decide) (by rw [k1_11]; decide) (by decide) ?_
                          exact bC_Frm_level_132  C   hM _ (lv_sub hl [] rfl)
                        · replace hM := it_f k1_11 hM
                          by_cases k1_12 : x0 = (94 : Int32)
                          · replace hM := it_t k1_12 hM
                            refine lv_lookup (pc := 1) (off := 135) (tgt := 136) hx hb dC_Frm_level_1 (by decide) (by rw [k1_12]; decide) (by decide) ?_
                            refine lv_iconst (pc := 136) (v := 2) hx hb dC_Frm_level_136 (by decide) ?_
                            obtain rfl := sm_i hM
                            exact x_retS (pc := 137) C rfl dC_Frm_level_137
                          · replace hM := it_f k1_12 hM
                            by_cases k1_13 : x0 = (124 : Int32)
                            · replace hM := it_t k1_13 hM
                              refine lv_lookup (pc := 1) (off := 137) (tgt := 138) hx hb dC_Frm_level_1 (by decide) (by rw [k1_13]; decide) (by decide) ?_
                              refine lv_iconst (pc := 138) (v := 1) hx hb dC_Frm_level_138 (by decide) ?_
                              obtain rfl := sm_i hM
                              exact x_retS (pc := 139) C rfl dC_Frm_level_139
                            · replace hM := it_f k1_13 hM
                              refine lv_lookup (pc := 1) (off := 139) (tgt := 140) hx hb dC_Frm_level_1 (by decide) (by rw [lv_osw k1_0 (by decide)]; rw [lv_osw k1_1 (by decide)]; rw [lv_osw k1_2 (by decide)]; rw [lv_osw k1_3 (by decide)]; rw [lv_osw k1_4 (by decide)]; rw [lv_osw k1_5 (by decide)]; rw [lv_osw k1_6 (by decide)]; rw [lv_osw k1_7 (by decide)]; rw [lv_osw k1_8 (by decide)]; rw [lv_osw k1_9 (by decide)]; rw [lv_osw k1_10 (by decide)]; rw [lv_osw k1_11 (by decide)]; rw [lv_osw k1_12 (by decide)]; rw [lv_osw k1_13 (by decide)]; rfl) (by decide) ?_
                              refine lv_iconst (pc := 140) (v := 0) hx hb dC_Frm_level_140 (by decide) ?_
                              obtain rfl := sm_i hM
                              exact x_retS (pc := 141) C rfl dC_Frm_level_141
theorem kC_Frm_level (l : Launch) (x0 : Int32) {r : Int32} (hM : C_Frm_level x0 = some r) : KS l yC_Frm_level cC_Frm_level 1 (some .int) rm_Frm_level [.int x0] (some (.int r)) := x_enterS (by decide +kernel) (Nat.le_of_ble_eq_true rfl) (fun p e s m args below meth c C ls hl => bC_Frm_level_0 C x0 hM ls hl)
def C_Frm_changed (x0 : Int32) (x1 : Int32) : Option Int32 :=
  (if x0 = (10 : Int32) then some (-x1) else (if x0 = (12 : Int32) then some (jush (x1 + (2048 : Int32)) (12 : Int32)) else (if x0 = (13 : Int32) then some ((x1 <<< ((20 : Int32) &&& 31)) >>> ((20 : Int32) &&& 31)) else some (x1 ^^^ (-1 : Int32)))))
set_option maxHeartbeats 4000000 in
set_option maxRecDepth 100000 in
theorem bC_Frm_changed_0  {r : Int32} (C : CxS R_Frm p s m args meth c cC_Frm_changed 2 (some .int)) (x0 : Int32) (x1 : Int32) (hM : C_Frm_changed  x0 x1 = some r) (ls : Array Slot) (hl : lv_has ls 2 [(0, .int x0), (1, .int x1)]) : W p l e rm_Frm_changed s m args below meth c s.heap [] 0 0 (MQ below (QS (some (.int r))) args s 0 0 (fun _ => False)) (F0 m 0 ls []) := by
  have hx := C.1
  have hb := C.2.1
  have hown := C.2.2.2.2.1
  have hT := C.2.2.2.2.2.1
  unfold C_Frm_changed at hM
  refine lv_iload_n (pc := 0) hx hb dC_Frm_changed_0 rfl (lv_at hl 0 rfl) ?_
  by_cases k1_0 : x0 = (10 : Int32)
  · replace hM := it_t k1_0 hM
    refine lv_tableIn (pc := 1) (off := 31) (tgt := 32) hx hb dC_Frm_changed_1 (by rw [k1_0]; decide) (by rw [k1_0]; decide) (by rw [k1_0]; decide) (by decide) ?_
    refine lv_iload_n (pc := 32) hx hb dC_Frm_changed_32 rfl (lv_at hl 1 rfl) ?_
    refine lv_ineg (pc := 33) hx hb dC_Frm_changed_33 ?_
    obtain rfl := sm_i hM
    exact x_retS (pc := 34) C rfl dC_Frm_changed_34
  · replace hM := it_f k1_0 hM
    by_cases k1_1 : x0 = (12 : Int32)
    · replace hM := it_t k1_1 hM
      refine lv_tableIn (pc := 1) (off := 34) (tgt := 35) hx hb dC_Frm_changed_1 (by rw [k1_1]; decide) (by rw [k1_1]; decide) (by rw [k1_1]; decide) (by decide) ?_
      refine lv_iload_n (pc := 35) hx hb dC_Frm_changed_35 rfl (lv_at hl 1 rfl) ?_
      refine lv_sipush (pc := 36) (v := 2048) hx hb dC_Frm_changed_36 (by decide) ?_
      refine lv_iadd (pc := 39) hx hb dC_Frm_changed_39 ?_
      refine lv_bipush (pc := 40) (v := 12) hx hb dC_Frm_changed_40 (by decide) ?_
      refine lv_iushr (pc := 42) (v := jush (x1 + (2048 : Int32)) (12 : Int32)) hx hb dC_Frm_changed_42 rfl ?_
      obtain rfl := sm_i hM
      exact x_retS (pc := 43) C rfl dC_Frm_changed_43
    · replace hM := it_f k1_1 hM
      by_cases k1_2 : x0 = (13 : Int32)
      · replace hM := it_t k1_2 hM
        refine lv_tableIn (pc := 1) (off := 43) (tgt := 44) hx hb dC_Frm_changed_1 (by rw [k1_2]; decide) (by rw [k1_2]; decide) (by rw [k1_2]; decide) (by decide) ?_
        refine lv_iload_n (pc := 44) hx hb dC_Frm_changed_44 rfl (lv_at hl 1 rfl) ?_
        refine lv_bipush (pc := 45) (v := 20) hx hb dC_Frm_changed_45 (by decide) ?_
        refine lv_ishl (pc := 47) hx hb dC_Frm_changed_47 ?_
        refine lv_bipush (pc := 48) (v := 20) hx hb dC_Frm_changed_48 (by decide) ?_
        refine lv_ishr (pc := 50) hx hb dC_Frm_changed_50 ?_
        obtain rfl := sm_i hM
        exact x_retS (pc := 51) C rfl dC_Frm_changed_51
      · replace hM := it_f k1_2 hM
        by_cases k1_o : x0.toInt < 10 ∨ 13 < x0.toInt
        · refine lv_tableOut (pc := 1) (tgt := 52) hx hb dC_Frm_changed_1 k1_o (by decide) ?_
          refine lv_iload_n (pc := 52) hx hb dC_Frm_changed_52 rfl (lv_at hl 1 rfl) ?_
          refine lv_iconst (pc := 53) (v := -1) hx hb dC_Frm_changed_53 (by decide) ?_
          refine lv_ixor (pc := 54) hx hb dC_Frm_changed_54 ?_
          obtain rfl := sm_i hM
          exact x_retS (pc := 55) C rfl dC_Frm_changed_55
        · refine lv_tableIn (pc := 1) (off := 51) (tgt := 52) hx hb dC_Frm_changed_1 (fun z => k1_o (Or.inl z)) (fun z => k1_o (Or.inr z)) (lv_tdef 4 [(10 : Int32), (12 : Int32), (13 : Int32)] (fun z => k1_o (Or.inl z)) (fun z => k1_o (Or.inr z)) (List.forall_mem_cons.mpr ⟨k1_0, (List.forall_mem_cons.mpr ⟨k1_1, (List.forall_mem_cons.mpr ⟨k1_2, (fun _ h => by cases h)⟩)⟩)⟩) (by decide) (by decide +kernel)) (by decide) ?_
          refine lv_iload_n (pc := 52) hx hb dC_Frm_changed_52 rfl (lv_at hl 1 rfl) ?_
          refine lv_iconst (pc := 53) (v := -1) hx hb dC_Frm_changed_53 (by decide) ?_
          refine lv_ixor (pc := 54) hx hb dC_Frm_changed_54 ?_
          obtain rfl := sm_i hM
          exact x_retS (pc := 55) C rfl dC_Frm_changed_55
theorem kC_Frm_changed (l : Launch) (x0 : Int32) (x1 : Int32) {r : Int32} (hM : C_Frm_changed x0 x1 = some r) : KS l yC_Frm_changed cC_Frm_changed 2 (some .int) rm_Frm_changed [.int x0, .int x1] (some (.int r)) := x_enterS (by decide +kernel) (Nat.le_of_ble_eq_true rfl) (fun p e s m args below meth c C ls hl => bC_Frm_changed_0 C x0 x1 hM ls hl)
def C_Asm_isOfText_29 (t0 : Int32) : Option Int32 :=
  gd (isB t0) (some t0)
set_option maxHeartbeats 4000000 in
set_option maxRecDepth 100000 in
theorem bC_Asm_isOfText_29  {r : Int32} (C : CxS R_Asm p s m args meth c cC_Asm_isOfText 1 (some .boolean)) (t0 : Int32) (hM : C_Asm_isOfText_29  t0 = some r) (ls : Array Slot) (hl : lv_has ls 1 []) : W p l e rm_Asm_isOfText s m args below meth c s.heap [] 0 0 (MQ below (QS (some (.int r))) args s 0 0 (fun _ => False)) (F0 m 29 ls [.int t0]) := by
  have hx := C.1
  have hb := C.2.1
  have hown := C.2.2.2.2.1
  have hT := C.2.2.2.2.2.1
  unfold C_Asm_isOfText_29 at hM
  obtain ⟨hg1, hM⟩ := gd_some hM
  obtain rfl := sm_i hM
  exact x_retSz (pc := 29) C rfl hg1 dC_Asm_isOfText_29
def C_Asm_isOfText_24  : Option Int32 :=
  C_Asm_isOfText_29  (1 : Int32)
set_option maxHeartbeats 4000000 in
set_option maxRecDepth 100000 in
theorem bC_Asm_isOfText_24  {r : Int32} (C : CxS R_Asm p s m args meth c cC_Asm_isOfText 1 (some .boolean))  (hM : C_Asm_isOfText_24   = some r) (ls : Array Slot) (hl : lv_has ls 1 []) : W p l e rm_Asm_isOfText s m args below meth c s.heap [] 0 0 (MQ below (QS (some (.int r))) args s 0 0 (fun _ => False)) (F0 m 24 ls []) := by
  have hx := C.1
  have hb := C.2.1
  have hown := C.2.2.2.2.1
  have hT := C.2.2.2.2.2.1
  unfold C_Asm_isOfText_24 at hM
  refine lv_iconst (pc := 24) (v := 1) hx hb dC_Asm_isOfText_24 (by decide) ?_
  refine lv_goto (pc := 25) (tgt := 29) hx hb dC_Asm_isOfText_25 (by decide) ?_
  exact bC_Asm_isOfText_29  C  _ hM _ (lv_sub hl [] rfl)
def C_Asm_isOfText_28  : Option Int32 :=
  C_Asm_isOfText_29  (0 : Int32)
set_option maxHeartbeats 4000000 in
set_option maxRecDepth 100000 in
theorem bC_Asm_isOfText_28  {r : Int32} (C : CxS R_Asm p s m args meth c cC_Asm_isOfText 1 (some .boolean))  (hM : C_Asm_isOfText_28   = some r) (ls : Array Slot) (hl : lv_has ls 1 []) : W p l e rm_Asm_isOfText s m args below meth c s.heap [] 0 0 (MQ below (QS (some (.int r))) args s 0 0 (fun _ => False)) (F0 m 28 ls []) := by
  have hx := C.1
  have hb := C.2.1
  have hown := C.2.2.2.2.1
  have hT := C.2.2.2.2.2.1
  unfold C_Asm_isOfText_28 at hM
  refine lv_iconst (pc := 28) (v := 0) hx hb dC_Asm_isOfText_28 (by decide) ?_
  exact bC_Asm_isOfText_29  C  _ hM _ (lv_sub hl [] rfl)
def C_Asm_isOfText (x0 : Int32) : Option Int32 :=
  (if x0 = (9 : Int32) then C_Asm_isOfText_24   else (if x0 = (10 : Int32) then C_Asm_isOfText_24   else (if x0 < (32 : Int32) then C_Asm_isOfText_28   else (if (126 : Int32) < x0 then C_Asm_isOfText_28   else C_Asm_isOfText_24  ))))
set_option maxHeartbeats 4000000 in
set_option maxRecDepth 100000 in
theorem bC_Asm_isOfText_0  {r : Int32} (C : CxS R_Asm p s m args meth c cC_Asm_isOfText 1 (some .boolean)) (x0 : Int32) (hM : C_Asm_isOfText  x0 = some r) (ls : Array Slot) (hl : lv_has ls 1 [(0, .int x0)]) : W p l e rm_Asm_isOfText s m args below meth c s.heap [] 0 0 (MQ below (QS (some (.int r))) args s 0 0 (fun _ => False)) (F0 m 0 ls []) := by
  have hx := C.1
  have hb := C.2.1
  have hown := C.2.2.2.2.1
  have hT := C.2.2.2.2.2.1
  unfold C_Asm_isOfText at hM
  refine lv_iload_n (pc := 0) hx hb dC_Asm_isOfText_0 rfl (lv_at hl 0 rfl) ?_
  refine lv_bipush (pc := 1) (v := 9) hx hb dC_Asm_isOfText_1 (by decide) ?_
  refine lv_icmp_eq (pc := 3) (tgt := 24) hx hb dC_Asm_isOfText_3 (by decide) (fun hc => ?_) (fun hc => ?_)
  · replace hM := it_t hc hM
    exact bC_Asm_isOfText_24  C   hM _ (lv_sub hl [] rfl)
  · replace hM := it_f hc hM
    refine lv_iload_n (pc := 6) hx hb dC_Asm_isOfText_6 rfl (lv_at hl 0 rfl) ?_
    refine lv_bipush (pc := 7) (v := 10) hx hb dC_Asm_isOfText_7 (by decide) ?_
    refine lv_icmp_eq (pc := 9) (tgt := 24) hx hb dC_Asm_isOfText_9 (by decide) (fun hc => ?_) (fun hc => ?_)
    · replace hM := it_t hc hM
      exact bC_Asm_isOfText_24  C   hM _ (lv_sub hl [] rfl)
    · replace hM := it_f hc hM
      refine lv_iload_n (pc := 12) hx hb dC_Asm_isOfText_12 rfl (lv_at hl 0 rfl) ?_
      refine lv_bipush (pc := 13) (v := 32) hx hb dC_Asm_isOfText_13 (by decide) ?_
      refine lv_icmp_lt (pc := 15) (tgt := 28) hx hb dC_Asm_isOfText_15 (by decide) (fun hc => ?_) (fun hc => ?_)
      · replace hM := it_t hc hM
        exact bC_Asm_isOfText_28  C   hM _ (lv_sub hl [] rfl)
      · replace hM := it_f hc hM
        refine lv_iload_n (pc := 18) hx hb dC_Asm_isOfText_18 rfl (lv_at hl 0 rfl) ?_
        refine lv_bipush (pc := 19) (v := 126) hx hb dC_Asm_isOfText_19 (by decide) ?_
        refine lv_icmp_gt (pc := 21) (tgt := 28) hx hb dC_Asm_isOfText_21 (by decide) (fun hc => ?_) (fun hc => ?_)
        · replace hM := it_t hc hM
          exact bC_Asm_isOfText_28  C   hM _ (lv_sub hl [] rfl)
        · replace hM := it_f hc hM
          exact bC_Asm_isOfText_24  C   hM _ (lv_sub hl [] rfl)
theorem kC_Asm_isOfText (l : Launch) (x0 : Int32) {r : Int32} (hM : C_Asm_isOfText x0 = some r) : KS l yC_Asm_isOfText cC_Asm_isOfText 1 (some .boolean) rm_Asm_isOfText [.int x0] (some (.int r)) := x_enterS (by decide +kernel) (Nat.le_of_ble_eq_true rfl) (fun p e s m args below meth c C ls hl => bC_Asm_isOfText_0 C x0 hM ls hl)
end
