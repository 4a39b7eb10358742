theorem q_1657 : (Jvm.Cond.fieldLink "LineAssemblerModel" (263 : Nat) "LineAssemblerModel" "names" "[J") ∈ lw_gd := u_6 (List.mem_of_getElem? (i := 217) (by decide +kernel)) (by decide +kernel)
theorem q_2063 : (Jvm.Cond.methodLink "LineAssemblerModel" (620 : Nat) ({ cls := "LineAssemblerModel", name := "notZero", desc := "(I)V" } : Jvm.MethodName)) ∈ lw_gd := u_8 (List.mem_of_getElem? (i := 143) (by decide +kernel)) (by decide +kernel)
theorem q_2065 : (Jvm.Cond.instanceMethod ({ cls := "LineAssemblerModel", name := "notZero", desc := "(I)V" } : Jvm.MethodName)) ∈ lw_gd := u_8 (List.mem_of_getElem? (i := 145) (by decide +kernel)) (by decide +kernel)
theorem q_2066 : (Jvm.Cond.code ({ cls := "LineAssemblerModel", name := "notZero", desc := "(I)V" } : Jvm.MethodName) prog_14_method_64_code (2 : Nat) (Option.none : Option Jvm.ClassFile.FieldType)) ∈ lw_gd := u_8 (List.mem_of_getElem? (i := 146) (by decide +kernel)) (by decide +kernel)
theorem q_2067 : (Jvm.Cond.methodLink "LineAssemblerModel" (623 : Nat) ({ cls := "LineAssemblerModel", name := "near8", desc := "()I" } : Jvm.MethodName)) ∈ lw_gd := u_8 (List.mem_of_getElem? (i := 147) (by decide +kernel)) (by decide +kernel)
theorem q_2069 : (Jvm.Cond.instanceMethod ({ cls := "LineAssemblerModel", name := "near8", desc := "()I" } : Jvm.MethodName)) ∈ lw_gd := u_8 (List.mem_of_getElem? (i := 149) (by decide +kernel)) (by decide +kernel)
theorem q_2070 : (Jvm.Cond.code ({ cls := "LineAssemblerModel", name := "near8", desc := "()I" } : Jvm.MethodName) prog_14_method_41_code (2 : Nat) (Option.some Jvm.ClassFile.FieldType.int)) ∈ lw_gd := u_8 (List.mem_of_getElem? (i := 150) (by decide +kernel)) (by decide +kernel)
theorem q_2079 : (Jvm.Cond.methodLink "LineAssemblerModel" (617 : Nat) ({ cls := "LineAssemblerModel", name := "six", desc := "(I)I" } : Jvm.MethodName)) ∈ lw_gd := u_8 (List.mem_of_getElem? (i := 159) (by decide +kernel)) (by decide +kernel)
theorem q_2080 : (Jvm.Cond.static ({ cls := "LineAssemblerModel", name := "six", desc := "(I)I" } : Jvm.MethodName)) ∈ lw_gd := u_8 (List.mem_of_getElem? (i := 160) (by decide +kernel)) (by decide +kernel)
theorem q_2081 : (Jvm.Cond.code ({ cls := "LineAssemblerModel", name := "six", desc := "(I)I" } : Jvm.MethodName) prog_14_method_54_code (1 : Nat) (Option.some Jvm.ClassFile.FieldType.int)) ∈ lw_gd := u_8 (List.mem_of_getElem? (i := 161) (by decide +kernel)) (by decide +kernel)
theorem qs_105 : Cond.selects "LineAssemblerModel" (⟨"LineAssemblerModel", "notZero", "(I)V"⟩ : MethodName) ⟨"LineAssemblerModel", "notZero", "(I)V"⟩ ∈ lw_gd := lw_gds (List.mem_of_getElem? (i := 105) (by decide +kernel)) (by decide +kernel)
theorem qs_106 : Cond.selects "LineAssemblerModel" (⟨"LineAssemblerModel", "near8", "()I"⟩ : MethodName) ⟨"LineAssemblerModel", "near8", "()I"⟩ ∈ lw_gd := lw_gds (List.mem_of_getElem? (i := 106) (by decide +kernel)) (by decide +kernel)
abbrev cM_named : ByteArray := prog_14_method_72_code
def yM_named : MethodName := ⟨RM, "named", "(II)I"⟩
abbrev rm_named : Room := { frames := 2, cells := 0, slots := 0, locals := 46 }
theorem dM_named_0 : decode cM_named 0 = .ok (.aload_n 0, 1) := by decide +kernel
theorem dM_named_1 : decode cM_named 1 = .ok (.iload_n 1, 1) := by decide +kernel
theorem dM_named_2 : decode cM_named 2 = .ok (.iload_n 2, 1) := by decide +kernel
theorem dM_named_3 : decode cM_named 3 = .ok (.invokevirtual 433, 3) := by decide +kernel
theorem dM_named_6 : decode cM_named 6 = .ok (.lstore_n 3, 1) := by decide +kernel
theorem dM_named_7 : decode cM_named 7 = .ok (.iconst 0, 1) := by decide +kernel
theorem dM_named_8 : decode cM_named 8 = .ok (.istore 5, 2) := by decide +kernel
theorem dM_named_10 : decode cM_named 10 = .ok (.iload 5, 2) := by decide +kernel
theorem dM_named_12 : decode cM_named 12 = .ok (.aload_n 0, 1) := by decide +kernel
theorem dM_named_13 : decode cM_named 13 = .ok (.getfield 263, 3) := by decide +kernel
theorem dM_named_16 : decode cM_named 16 = .ok (.arraylength, 1) := by decide +kernel
theorem dM_named_17 : decode cM_named 17 = .ok (.if_icmp .ge (24), 3) := by decide +kernel
theorem dM_named_20 : decode cM_named 20 = .ok (.aload_n 0, 1) := by decide +kernel
theorem dM_named_21 : decode cM_named 21 = .ok (.getfield 263, 3) := by decide +kernel
theorem dM_named_24 : decode cM_named 24 = .ok (.iload 5, 2) := by decide +kernel
theorem dM_named_26 : decode cM_named 26 = .ok (.laload, 1) := by decide +kernel
theorem dM_named_27 : decode cM_named 27 = .ok (.lload_n 3, 1) := by decide +kernel
theorem dM_named_28 : decode cM_named 28 = .ok (.lcmp, 1) := by decide +kernel
theorem dM_named_29 : decode cM_named 29 = .ok (.ifCond .ne (6), 3) := by decide +kernel
theorem dM_named_32 : decode cM_named 32 = .ok (.iload 5, 2) := by decide +kernel
theorem dM_named_34 : decode cM_named 34 = .ok (.ireturn, 1) := by decide +kernel
theorem dM_named_35 : decode cM_named 35 = .ok (.iinc 5 (1), 3) := by decide +kernel
theorem dM_named_38 : decode cM_named 38 = .ok (.goto (-28), 3) := by decide +kernel
theorem dM_named_41 : decode cM_named 41 = .ok (.iconst (-1), 1) := by decide +kernel
theorem dM_named_42 : decode cM_named 42 = .ok (.ireturn, 1) := by decide +kernel
abbrev cM_six : ByteArray := prog_14_method_54_code
def yM_six : MethodName := ⟨RM, "six", "(I)I"⟩
abbrev rm_six : Room := { frames := 1, cells := 0, slots := 0, locals := 23 }
theorem dM_six_0 : decode cM_six 0 = .ok (.iload_n 0, 1) := by decide +kernel
theorem dM_six_1 : decode cM_six 1 = .ok (.iconst 5, 1) := by decide +kernel
theorem dM_six_2 : decode cM_six 2 = .ok (.iconst 5, 1) := by decide +kernel
theorem dM_six_3 : decode cM_six 3 = .ok (.bipush 12, 2) := by decide +kernel
theorem dM_six_5 : decode cM_six 5 = .ok (.invokestatic 559, 3) := by decide +kernel
theorem dM_six_8 : decode cM_six 8 = .ok (.iload_n 0, 1) := by decide +kernel
theorem dM_six_9 : decode cM_six 9 = .ok (.iconst 4, 1) := by decide +kernel
theorem dM_six_10 : decode cM_six 10 = .ok (.iconst 0, 1) := by decide +kernel
theorem dM_six_11 : decode cM_six 11 = .ok (.iconst 2, 1) := by decide +kernel
theorem dM_six_12 : decode cM_six 12 = .ok (.invokestatic 559, 3) := by decide +kernel
theorem dM_six_15 : decode cM_six 15 = .ok (.ior, 1) := by decide +kernel
theorem dM_six_16 : decode cM_six 16 = .ok (.ireturn, 1) := by decide +kernel
abbrev cM_others : ByteArray := prog_14_method_63_code
def yM_others : MethodName := ⟨RM, "others", "(II)V"⟩
abbrev rm_others : Room := { frames := 9, cells := 0, slots := 0, locals := 205 }
theorem dM_others_0 : decode cM_others 0 = .ok (.aload_n 0, 1) := by decide +kernel
theorem dM_others_1 : decode cM_others 1 = .ok (.invokevirtual 541, 3) := by decide +kernel
theorem dM_others_4 : decode cM_others 4 = .ok (.istore_n 3, 1) := by decide +kernel
theorem dM_others_5 : decode cM_others 5 = .ok (.iload_n 1, 1) := by decide +kernel
theorem dM_others_6 : decode cM_others 6 = .ok (.bipush 33, 2) := by decide +kernel
theorem dM_others_8 : decode cM_others 8 = .ok (.if_icmp .ne (14), 3) := by decide +kernel
theorem dM_others_11 : decode cM_others 11 = .ok (.aload_n 0, 1) := by decide +kernel
theorem dM_others_12 : decode cM_others 12 = .ok (.iload_n 2, 1) := by decide +kernel
theorem dM_others_13 : decode cM_others 13 = .ok (.iload_n 3, 1) := by decide +kernel
theorem dM_others_14 : decode cM_others 14 = .ok (.bipush 15, 2) := by decide +kernel
theorem dM_others_16 : decode cM_others 16 = .ok (.ishl, 1) := by decide +kernel
theorem dM_others_17 : decode cM_others 17 = .ok (.ior, 1) := by decide +kernel
theorem dM_others_18 : decode cM_others 18 = .ok (.invokevirtual 579, 3) := by decide +kernel
theorem dM_others_21 : decode cM_others 21 = .ok (.return_, 1) := by decide +kernel
theorem dM_others_22 : decode cM_others 22 = .ok (.aload_n 0, 1) := by decide +kernel
theorem dM_others_23 : decode cM_others 23 = .ok (.invokevirtual 591, 3) := by decide +kernel
theorem dM_others_26 : decode cM_others 26 = .ok (.ifCond .ne (4), 3) := by decide +kernel
theorem dM_others_29 : decode cM_others 29 = .ok (.return_, 1) := by decide +kernel
theorem dM_others_30 : decode cM_others 30 = .ok (.iload_n 1, 1) := by decide +kernel
theorem dM_others_31 : decode cM_others 31 = .ok (.bipush 33, 2) := by decide +kernel
theorem dM_others_33 : decode cM_others 33 = .ok (.if_icmp .ge (33), 3) := by decide +kernel
theorem dM_others_36 : decode cM_others 36 = .ok (.aload_n 0, 1) := by decide +kernel
theorem dM_others_37 : decode cM_others 37 = .ok (.iload_n 2, 1) := by decide +kernel
theorem dM_others_38 : decode cM_others 38 = .ok (.iload_n 3, 1) := by decide +kernel
theorem dM_others_39 : decode cM_others 39 = .ok (.bipush 7, 2) := by decide +kernel
theorem dM_others_41 : decode cM_others 41 = .ok (.ishl, 1) := by decide +kernel
theorem dM_others_42 : decode cM_others 42 = .ok (.ior, 1) := by decide +kernel
theorem dM_others_43 : decode cM_others 43 = .ok (.aload_n 0, 1) := by decide +kernel
theorem dM_others_44 : decode cM_others 44 = .ok (.invokevirtual 541, 3) := by decide +kernel
theorem dM_others_47 : decode cM_others 47 = .ok (.iload_n 1, 1) := by decide +kernel
theorem dM_others_48 : decode cM_others 48 = .ok (.bipush 31, 2) := by decide +kernel
theorem dM_others_50 : decode cM_others 50 = .ok (.if_icmp .ne (8), 3) := by decide +kernel
theorem dM_others_53 : decode cM_others 53 = .ok (.bipush 15, 2) := by decide +kernel
theorem dM_others_55 : decode cM_others 55 = .ok (.goto (5), 3) := by decide +kernel
theorem dM_others_58 : decode cM_others 58 = .ok (.bipush 20, 2) := by decide +kernel
theorem dM_others_60 : decode cM_others 60 = .ok (.ishl, 1) := by decide +kernel
theorem dM_others_61 : decode cM_others 61 = .ok (.ior, 1) := by decide +kernel
theorem dM_others_62 : decode cM_others 62 = .ok (.invokevirtual 579, 3) := by decide +kernel
theorem dM_others_65 : decode cM_others 65 = .ok (.return_, 1) := by decide +kernel
theorem dM_others_66 : decode cM_others 66 = .ok (.iload_n 1, 1) := by decide +kernel
theorem dM_others_67 : decode cM_others 67 = .ok (.bipush 39, 2) := by decide +kernel
theorem dM_others_69 : decode cM_others 69 = .ok (.if_icmp .ne (16), 3) := by decide +kernel
theorem dM_others_72 : decode cM_others 72 = .ok (.aload_n 0, 1) := by decide +kernel
theorem dM_others_73 : decode cM_others 73 = .ok (.ldc_w 612, 3) := by decide +kernel
theorem dM_others_76 : decode cM_others 76 = .ok (.ldc_w 613, 3) := by decide +kernel
theorem dM_others_79 : decode cM_others 79 = .ok (.invokevirtual 614, 3) := by decide +kernel
theorem dM_others_82 : decode cM_others 82 = .ok (.goto (12), 3) := by decide +kernel
theorem dM_others_85 : decode cM_others 85 = .ok (.aload_n 0, 1) := by decide +kernel
theorem dM_others_86 : decode cM_others 86 = .ok (.invokevirtual 534, 3) := by decide +kernel
theorem dM_others_89 : decode cM_others 89 = .ok (.aload_n 0, 1) := by decide +kernel
theorem dM_others_90 : decode cM_others 90 = .ok (.getfield 495, 3) := by decide +kernel
theorem dM_others_93 : decode cM_others 93 = .ok (.isub, 1) := by decide +kernel
theorem dM_others_94 : decode cM_others 94 = .ok (.istore 4, 2) := by decide +kernel
theorem dM_others_96 : decode cM_others 96 = .ok (.iload 4, 2) := by decide +kernel
theorem dM_others_98 : decode cM_others 98 = .ok (.sipush 2048, 3) := by decide +kernel
theorem dM_others_101 : decode cM_others 101 = .ok (.iadd, 1) := by decide +kernel
theorem dM_others_102 : decode cM_others 102 = .ok (.bipush 12, 2) := by decide +kernel
theorem dM_others_104 : decode cM_others 104 = .ok (.iushr, 1) := by decide +kernel
theorem dM_others_105 : decode cM_others 105 = .ok (.istore 5, 2) := by decide +kernel
theorem dM_others_107 : decode cM_others 107 = .ok (.iload 4, 2) := by decide +kernel
theorem dM_others_109 : decode cM_others 109 = .ok (.bipush 20, 2) := by decide +kernel
theorem dM_others_111 : decode cM_others 111 = .ok (.ishl, 1) := by decide +kernel
theorem dM_others_112 : decode cM_others 112 = .ok (.bipush 20, 2) := by decide +kernel
theorem dM_others_114 : decode cM_others 114 = .ok (.ishr, 1) := by decide +kernel
theorem dM_others_115 : decode cM_others 115 = .ok (.istore 6, 2) := by decide +kernel
theorem dM_others_117 : decode cM_others 117 = .ok (.iload_n 1, 1) := by decide +kernel
theorem dM_others_118 : decode cM_others 118 = .ok (.bipush 38, 2) := by decide +kernel
theorem dM_others_120 : decode cM_others 120 = .ok (.if_icmp .ne (23), 3) := by decide +kernel
theorem dM_others_123 : decode cM_others 123 = .ok (.aload_n 0, 1) := by decide +kernel
theorem dM_others_124 : decode cM_others 124 = .ok (.bipush 23, 2) := by decide +kernel
theorem dM_others_126 : decode cM_others 126 = .ok (.iload_n 3, 1) := by decide +kernel
theorem dM_others_127 : decode cM_others 127 = .ok (.bipush 7, 2) := by decide +kernel
theorem dM_others_129 : decode cM_others 129 = .ok (.ishl, 1) := by decide +kernel
theorem dM_others_130 : decode cM_others 130 = .ok (.ior, 1) := by decide +kernel
theorem dM_others_131 : decode cM_others 131 = .ok (.iload 5, 2) := by decide +kernel
theorem dM_others_133 : decode cM_others 133 = .ok (.bipush 12, 2) := by decide +kernel
theorem dM_others_135 : decode cM_others 135 = .ok (.ishl, 1) := by decide +kernel
theorem dM_others_136 : decode cM_others 136 = .ok (.ior, 1) := by decide +kernel
theorem dM_others_137 : decode cM_others 137 = .ok (.invokevirtual 579, 3) := by decide +kernel
theorem dM_others_140 : decode cM_others 140 = .ok (.goto (75), 3) := by decide +kernel
theorem dM_others_143 : decode cM_others 143 = .ok (.iload 4, 2) := by decide +kernel
theorem dM_others_145 : decode cM_others 145 = .ok (.bipush (-33), 2) := by decide +kernel
theorem dM_others_147 : decode cM_others 147 = .ok (.if_icmp .le (35), 3) := by decide +kernel
theorem dM_others_150 : decode cM_others 150 = .ok (.iload 4, 2) := by decide +kernel
theorem dM_others_152 : decode cM_others 152 = .ok (.bipush 32, 2) := by decide +kernel
theorem dM_others_154 : decode cM_others 154 = .ok (.if_icmp .ge (28), 3) := by decide +kernel
theorem dM_others_157 : decode cM_others 157 = .ok (.iload_n 3, 1) := by decide +kernel
theorem dM_others_158 : decode cM_others 158 = .ok (.ifCond .eq (24), 3) := by decide +kernel
theorem dM_others_161 : decode cM_others 161 = .ok (.aload_n 0, 1) := by decide +kernel
theorem dM_others_162 : decode cM_others 162 = .ok (.sipush 16385, 3) := by decide +kernel
theorem dM_others_165 : decode cM_others 165 = .ok (.iload_n 3, 1) := by decide +kernel
theorem dM_others_166 : decode cM_others 166 = .ok (.bipush 7, 2) := by decide +kernel
theorem dM_others_168 : decode cM_others 168 = .ok (.ishl, 1) := by decide +kernel
theorem dM_others_169 : decode cM_others 169 = .ok (.ior, 1) := by decide +kernel
theorem dM_others_170 : decode cM_others 170 = .ok (.iload 4, 2) := by decide +kernel
theorem dM_others_172 : decode cM_others 172 = .ok (.invokestatic 617, 3) := by decide +kernel
theorem dM_others_175 : decode cM_others 175 = .ok (.ior, 1) := by decide +kernel
theorem dM_others_176 : decode cM_others 176 = .ok (.invokevirtual 556, 3) := by decide +kernel
theorem dM_others_179 : decode cM_others 179 = .ok (.goto (36), 3) := by decide +kernel
theorem dM_others_182 : decode cM_others 182 = .ok (.iload 4, 2) := by decide +kernel
theorem dM_others_184 : decode cM_others 184 = .ok (.sipush (-2048), 3) := by decide +kernel
theorem dM_others_187 : decode cM_others 187 = .ok (.if_icmp .lt (11), 3) := by decide +kernel
theorem dM_others_190 : decode cM_others 190 = .ok (.iload 4, 2) := by decide +kernel
theorem dM_others_192 : decode cM_others 192 = .ok (.sipush 2047, 3) := by decide +kernel
theorem dM_others_195 : decode cM_others 195 = .ok (.if_icmp .le (20), 3) := by decide +kernel
theorem dM_others_198 : decode cM_others 198 = .ok (.aload_n 0, 1) := by decide +kernel
theorem dM_others_199 : decode cM_others 199 = .ok (.bipush 55, 2) := by decide +kernel
theorem dM_others_201 : decode cM_others 201 = .ok (.iload_n 3, 1) := by decide +kernel
theorem dM_others_202 : decode cM_others 202 = .ok (.bipush 7, 2) := by decide +kernel
theorem dM_others_204 : decode cM_others 204 = .ok (.ishl, 1) := by decide +kernel
theorem dM_others_205 : decode cM_others 205 = .ok (.ior, 1) := by decide +kernel
theorem dM_others_206 : decode cM_others 206 = .ok (.iload 5, 2) := by decide +kernel
theorem dM_others_208 : decode cM_others 208 = .ok (.bipush 12, 2) := by decide +kernel
theorem dM_others_210 : decode cM_others 210 = .ok (.ishl, 1) := by decide +kernel
theorem dM_others_211 : decode cM_others 211 = .ok (.ior, 1) := by decide +kernel
theorem dM_others_212 : decode cM_others 212 = .ok (.invokevirtual 579, 3) := by decide +kernel
theorem dM_others_215 : decode cM_others 215 = .ok (.iload_n 1, 1) := by decide +kernel
theorem dM_others_216 : decode cM_others 216 = .ok (.bipush 38, 2) := by decide +kernel
theorem dM_others_218 : decode cM_others 218 = .ok (.if_icmp .eq (24), 3) := by decide +kernel
theorem dM_others_221 : decode cM_others 221 = .ok (.iload 4, 2) := by decide +kernel
theorem dM_others_223 : decode cM_others 223 = .ok (.sipush (-2048), 3) := by decide +kernel
theorem dM_others_226 : decode cM_others 226 = .ok (.if_icmp .lt (11), 3) := by decide +kernel
theorem dM_others_229 : decode cM_others 229 = .ok (.iload 4, 2) := by decide +kernel
theorem dM_others_231 : decode cM_others 231 = .ok (.sipush 2047, 3) := by decide +kernel
theorem dM_others_234 : decode cM_others 234 = .ok (.if_icmp .le (30), 3) := by decide +kernel
theorem dM_others_237 : decode cM_others 237 = .ok (.iload 6, 2) := by decide +kernel
theorem dM_others_239 : decode cM_others 239 = .ok (.ifCond .eq (25), 3) := by decide +kernel
theorem dM_others_242 : decode cM_others 242 = .ok (.aload_n 0, 1) := by decide +kernel
theorem dM_others_243 : decode cM_others 243 = .ok (.bipush 19, 2) := by decide +kernel
theorem dM_others_245 : decode cM_others 245 = .ok (.iload_n 3, 1) := by decide +kernel
theorem dM_others_246 : decode cM_others 246 = .ok (.bipush 7, 2) := by decide +kernel
theorem dM_others_248 : decode cM_others 248 = .ok (.ishl, 1) := by decide +kernel
theorem dM_others_249 : decode cM_others 249 = .ok (.ior, 1) := by decide +kernel
theorem dM_others_250 : decode cM_others 250 = .ok (.iload_n 3, 1) := by decide +kernel
theorem dM_others_251 : decode cM_others 251 = .ok (.bipush 15, 2) := by decide +kernel
theorem dM_others_253 : decode cM_others 253 = .ok (.ishl, 1) := by decide +kernel
theorem dM_others_254 : decode cM_others 254 = .ok (.ior, 1) := by decide +kernel
theorem dM_others_255 : decode cM_others 255 = .ok (.iload 6, 2) := by decide +kernel
theorem dM_others_257 : decode cM_others 257 = .ok (.bipush 20, 2) := by decide +kernel
theorem dM_others_259 : decode cM_others 259 = .ok (.ishl, 1) := by decide +kernel
theorem dM_others_260 : decode cM_others 260 = .ok (.ior, 1) := by decide +kernel
theorem dM_others_261 : decode cM_others 261 = .ok (.invokevirtual 579, 3) := by decide +kernel
theorem dM_others_264 : decode cM_others 264 = .ok (.iload_n 1, 1) := by decide +kernel
theorem dM_others_265 : decode cM_others 265 = .ok (.bipush 39, 2) := by decide +kernel
theorem dM_others_267 : decode cM_others 267 = .ok (.if_icmp .ne (54), 3) := by decide +kernel
theorem dM_others_270 : decode cM_others 270 = .ok (.iload 4, 2) := by decide +kernel
theorem dM_others_272 : decode cM_others 272 = .ok (.sipush (-2049), 3) := by decide +kernel
theorem dM_others_275 : decode cM_others 275 = .ok (.if_icmp .le (46), 3) := by decide +kernel
theorem dM_others_278 : decode cM_others 278 = .ok (.iload 4, 2) := by decide +kernel
theorem dM_others_280 : decode cM_others 280 = .ok (.sipush 2048, 3) := by decide +kernel
theorem dM_others_283 : decode cM_others 283 = .ok (.if_icmp .ge (38), 3) := by decide +kernel
theorem dM_others_286 : decode cM_others 286 = .ok (.iload_n 3, 1) := by decide +kernel
theorem dM_others_287 : decode cM_others 287 = .ok (.ifCond .eq (17), 3) := by decide +kernel
theorem dM_others_290 : decode cM_others 290 = .ok (.iload 4, 2) := by decide +kernel
theorem dM_others_292 : decode cM_others 292 = .ok (.bipush (-32), 2) := by decide +kernel
theorem dM_others_294 : decode cM_others 294 = .ok (.if_icmp .lt (10), 3) := by decide +kernel
theorem dM_others_297 : decode cM_others 297 = .ok (.iload 4, 2) := by decide +kernel
theorem dM_others_299 : decode cM_others 299 = .ok (.bipush 31, 2) := by decide +kernel
theorem dM_others_301 : decode cM_others 301 = .ok (.if_icmp .le (20), 3) := by decide +kernel
theorem dM_others_304 : decode cM_others 304 = .ok (.aload_n 0, 1) := by decide +kernel
theorem dM_others_305 : decode cM_others 305 = .ok (.bipush 19, 2) := by decide +kernel
theorem dM_others_307 : decode cM_others 307 = .ok (.iload_n 3, 1) := by decide +kernel
theorem dM_others_308 : decode cM_others 308 = .ok (.bipush 7, 2) := by decide +kernel
theorem dM_others_310 : decode cM_others 310 = .ok (.ishl, 1) := by decide +kernel
theorem dM_others_311 : decode cM_others 311 = .ok (.ior, 1) := by decide +kernel
theorem dM_others_312 : decode cM_others 312 = .ok (.iload 4, 2) := by decide +kernel
theorem dM_others_314 : decode cM_others 314 = .ok (.bipush 20, 2) := by decide +kernel
theorem dM_others_316 : decode cM_others 316 = .ok (.ishl, 1) := by decide +kernel
theorem dM_others_317 : decode cM_others 317 = .ok (.ior, 1) := by decide +kernel
theorem dM_others_318 : decode cM_others 318 = .ok (.invokevirtual 579, 3) := by decide +kernel
theorem dM_others_321 : decode cM_others 321 = .ok (.return_, 1) := by decide +kernel
abbrev cM_near8 : ByteArray := prog_14_method_41_code
def yM_near8 : MethodName := ⟨RM, "near8", "()I"⟩
abbrev rm_near8 : Room := { frames := 6, cells := 0, slots := 0, locals := 135 }
theorem dM_near8_0 : decode cM_near8 0 = .ok (.aload_n 0, 1) := by decide +kernel
theorem dM_near8_1 : decode cM_near8 1 = .ok (.invokevirtual 541, 3) := by decide +kernel
theorem dM_near8_4 : decode cM_near8 4 = .ok (.istore_n 1, 1) := by decide +kernel
theorem dM_near8_5 : decode cM_near8 5 = .ok (.iload_n 1, 1) := by decide +kernel
theorem dM_near8_6 : decode cM_near8 6 = .ok (.bipush 8, 2) := by decide +kernel
theorem dM_near8_8 : decode cM_near8 8 = .ok (.if_icmp .lt (9), 3) := by decide +kernel
theorem dM_near8_11 : decode cM_near8 11 = .ok (.iload_n 1, 1) := by decide +kernel
theorem dM_near8_12 : decode cM_near8 12 = .ok (.bipush 15, 2) := by decide +kernel
theorem dM_near8_14 : decode cM_near8 14 = .ok (.if_icmp .le (8), 3) := by decide +kernel
theorem dM_near8_17 : decode cM_near8 17 = .ok (.aload_n 0, 1) := by decide +kernel
theorem dM_near8_18 : decode cM_near8 18 = .ok (.iconst 3, 1) := by decide +kernel
theorem dM_near8_19 : decode cM_near8 19 = .ok (.invokevirtual 429, 3) := by decide +kernel
theorem dM_near8_22 : decode cM_near8 22 = .ok (.iload_n 1, 1) := by decide +kernel
theorem dM_near8_23 : decode cM_near8 23 = .ok (.bipush 8, 2) := by decide +kernel
theorem dM_near8_25 : decode cM_near8 25 = .ok (.isub, 1) := by decide +kernel
theorem dM_near8_26 : decode cM_near8 26 = .ok (.bipush 7, 2) := by decide +kernel
theorem dM_near8_28 : decode cM_near8 28 = .ok (.iand, 1) := by decide +kernel
theorem dM_near8_29 : decode cM_near8 29 = .ok (.ireturn, 1) := by decide +kernel
abbrev cM_not : ByteArray := prog_14_method_43_code
def yM_not : MethodName := ⟨RM, "not", "(II)I"⟩
abbrev rm_not : Room := { frames := 1, cells := 0, slots := 0, locals := 21 }
theorem dM_not_0 : decode cM_not 0 = .ok (.iload_n 1, 1) := by decide +kernel
theorem dM_not_1 : decode cM_not 1 = .ok (.iload_n 2, 1) := by decide +kernel
theorem dM_not_2 : decode cM_not 2 = .ok (.if_icmp .ne (8), 3) := by decide +kernel
theorem dM_not_5 : decode cM_not 5 = .ok (.aload_n 0, 1) := by decide +kernel
theorem dM_not_6 : decode cM_not 6 = .ok (.iconst 3, 1) := by decide +kernel
theorem dM_not_7 : decode cM_not 7 = .ok (.invokevirtual 429, 3) := by decide +kernel
theorem dM_not_10 : decode cM_not 10 = .ok (.iload_n 1, 1) := by decide +kernel
theorem dM_not_11 : decode cM_not 11 = .ok (.ireturn, 1) := by decide +kernel
abbrev cM_notZero : ByteArray := prog_14_method_64_code
def yM_notZero : MethodName := ⟨RM, "notZero", "(I)V"⟩
abbrev rm_notZero : Room := { frames := 1, cells := 0, slots := 0, locals := 21 }
theorem dM_notZero_0 : decode cM_notZero 0 = .ok (.aload_n 0, 1) := by decide +kernel
theorem dM_notZero_1 : decode cM_notZero 1 = .ok (.getfield 531, 3) := by decide +kernel
theorem dM_notZero_4 : decode cM_notZero 4 = .ok (.iconst 2, 1) := by decide +kernel
theorem dM_notZero_5 : decode cM_notZero 5 = .ok (.if_icmp .ne (13), 3) := by decide +kernel
theorem dM_notZero_8 : decode cM_notZero 8 = .ok (.iload_n 1, 1) := by decide +kernel
theorem dM_notZero_9 : decode cM_notZero 9 = .ok (.ifCond .ne (9), 3) := by decide +kernel
theorem dM_notZero_12 : decode cM_notZero 12 = .ok (.aload_n 0, 1) := by decide +kernel
theorem dM_notZero_13 : decode cM_notZero 13 = .ok (.bipush 10, 2) := by decide +kernel
theorem dM_notZero_15 : decode cM_notZero 15 = .ok (.invokevirtual 429, 3) := by decide +kernel
theorem dM_notZero_18 : decode cM_notZero 18 = .ok (.return_, 1) := by decide +kernel
abbrev cM_plainSix : ByteArray := prog_14_method_66_code
def yM_plainSix : MethodName := ⟨RM, "plainSix", "(IIZ)V"⟩
abbrev rm_plainSix : Room := { frames := 9, cells := 0, slots := 0, locals := 206 }
theorem dM_plainSix_0 : decode cM_plainSix 0 = .ok (.aload_n 0, 1) := by decide +kernel
theorem dM_plainSix_1 : decode cM_plainSix 1 = .ok (.bipush (-32), 2) := by decide +kernel
theorem dM_plainSix_3 : decode cM_plainSix 3 = .ok (.bipush 31, 2) := by decide +kernel
theorem dM_plainSix_5 : decode cM_plainSix 5 = .ok (.iconst 1, 1) := by decide +kernel
theorem dM_plainSix_6 : decode cM_plainSix 6 = .ok (.invokevirtual 594, 3) := by decide +kernel
theorem dM_plainSix_9 : decode cM_plainSix 9 = .ok (.istore 4, 2) := by decide +kernel
theorem dM_plainSix_11 : decode cM_plainSix 11 = .ok (.iload_n 3, 1) := by decide +kernel
theorem dM_plainSix_12 : decode cM_plainSix 12 = .ok (.ifCond .eq (9), 3) := by decide +kernel
theorem dM_plainSix_15 : decode cM_plainSix 15 = .ok (.aload_n 0, 1) := by decide +kernel
theorem dM_plainSix_16 : decode cM_plainSix 16 = .ok (.iload 4, 2) := by decide +kernel
theorem dM_plainSix_18 : decode cM_plainSix 18 = .ok (.invokevirtual 620, 3) := by decide +kernel
theorem dM_plainSix_21 : decode cM_plainSix 21 = .ok (.aload_n 0, 1) := by decide +kernel
theorem dM_plainSix_22 : decode cM_plainSix 22 = .ok (.iload_n 1, 1) := by decide +kernel
theorem dM_plainSix_23 : decode cM_plainSix 23 = .ok (.iload_n 2, 1) := by decide +kernel
theorem dM_plainSix_24 : decode cM_plainSix 24 = .ok (.bipush 7, 2) := by decide +kernel
theorem dM_plainSix_26 : decode cM_plainSix 26 = .ok (.ishl, 1) := by decide +kernel
theorem dM_plainSix_27 : decode cM_plainSix 27 = .ok (.ior, 1) := by decide +kernel
theorem dM_plainSix_28 : decode cM_plainSix 28 = .ok (.iload 4, 2) := by decide +kernel
theorem dM_plainSix_30 : decode cM_plainSix 30 = .ok (.invokestatic 617, 3) := by decide +kernel
theorem dM_plainSix_33 : decode cM_plainSix 33 = .ok (.ior, 1) := by decide +kernel
theorem dM_plainSix_34 : decode cM_plainSix 34 = .ok (.invokevirtual 556, 3) := by decide +kernel
theorem dM_plainSix_37 : decode cM_plainSix 37 = .ok (.return_, 1) := by decide +kernel
abbrev cM_smalls : ByteArray := prog_14_method_68_code
def yM_smalls : MethodName := ⟨RM, "smalls", "(III)V"⟩
abbrev rm_smalls : Room := { frames := 9, cells := 0, slots := 0, locals := 206 }
theorem dM_smalls_0 : decode cM_smalls 0 = .ok (.iload_n 1, 1) := by decide +kernel
theorem dM_smalls_1 : decode cM_smalls 1 = .ok (.bipush 13, 2) := by decide +kernel
theorem dM_smalls_3 : decode cM_smalls 3 = .ok (.if_icmp .ne (67), 3) := by decide +kernel
theorem dM_smalls_6 : decode cM_smalls 6 = .ok (.aload_n 0, 1) := by decide +kernel
theorem dM_smalls_7 : decode cM_smalls 7 = .ok (.iconst 4, 1) := by decide +kernel
theorem dM_smalls_8 : decode cM_smalls 8 = .ok (.sipush 1020, 3) := by decide +kernel
theorem dM_smalls_11 : decode cM_smalls 11 = .ok (.iconst 4, 1) := by decide +kernel
theorem dM_smalls_12 : decode cM_smalls 12 = .ok (.invokevirtual 594, 3) := by decide +kernel
theorem dM_smalls_15 : decode cM_smalls 15 = .ok (.istore 4, 2) := by decide +kernel
theorem dM_smalls_17 : decode cM_smalls 17 = .ok (.aload_n 0, 1) := by decide +kernel
theorem dM_smalls_18 : decode cM_smalls 18 = .ok (.iload_n 2, 1) := by decide +kernel
theorem dM_smalls_19 : decode cM_smalls 19 = .ok (.iload 4, 2) := by decide +kernel
theorem dM_smalls_21 : decode cM_smalls 21 = .ok (.iconst 5, 1) := by decide +kernel
theorem dM_smalls_22 : decode cM_smalls 22 = .ok (.iconst 4, 1) := by decide +kernel
theorem dM_smalls_23 : decode cM_smalls 23 = .ok (.bipush 11, 2) := by decide +kernel
theorem dM_smalls_25 : decode cM_smalls 25 = .ok (.invokestatic 559, 3) := by decide +kernel
theorem dM_smalls_28 : decode cM_smalls 28 = .ok (.ior, 1) := by decide +kernel
theorem dM_smalls_29 : decode cM_smalls 29 = .ok (.iload 4, 2) := by decide +kernel
theorem dM_smalls_31 : decode cM_smalls 31 = .ok (.bipush 9, 2) := by decide +kernel
theorem dM_smalls_33 : decode cM_smalls 33 = .ok (.bipush 6, 2) := by decide +kernel
theorem dM_smalls_35 : decode cM_smalls 35 = .ok (.bipush 7, 2) := by decide +kernel
theorem dM_smalls_37 : decode cM_smalls 37 = .ok (.invokestatic 559, 3) := by decide +kernel
theorem dM_smalls_40 : decode cM_smalls 40 = .ok (.ior, 1) := by decide +kernel
theorem dM_smalls_41 : decode cM_smalls 41 = .ok (.iload 4, 2) := by decide +kernel
theorem dM_smalls_43 : decode cM_smalls 43 = .ok (.iconst 2, 1) := by decide +kernel
theorem dM_smalls_44 : decode cM_smalls 44 = .ok (.iconst 2, 1) := by decide +kernel
theorem dM_smalls_45 : decode cM_smalls 45 = .ok (.bipush 6, 2) := by decide +kernel
theorem dM_smalls_47 : decode cM_smalls 47 = .ok (.invokestatic 559, 3) := by decide +kernel
theorem dM_smalls_50 : decode cM_smalls 50 = .ok (.ior, 1) := by decide +kernel
theorem dM_smalls_51 : decode cM_smalls 51 = .ok (.iload 4, 2) := by decide +kernel
theorem dM_smalls_53 : decode cM_smalls 53 = .ok (.iconst 3, 1) := by decide +kernel
theorem dM_smalls_54 : decode cM_smalls 54 = .ok (.iconst 3, 1) := by decide +kernel
theorem dM_smalls_55 : decode cM_smalls 55 = .ok (.iconst 5, 1) := by decide +kernel
theorem dM_smalls_56 : decode cM_smalls 56 = .ok (.invokestatic 559, 3) := by decide +kernel
theorem dM_smalls_59 : decode cM_smalls 59 = .ok (.ior, 1) := by decide +kernel
theorem dM_smalls_60 : decode cM_smalls 60 = .ok (.iload_n 3, 1) := by decide +kernel
theorem dM_smalls_61 : decode cM_smalls 61 = .ok (.iconst 2, 1) := by decide +kernel
theorem dM_smalls_62 : decode cM_smalls 62 = .ok (.ishl, 1) := by decide +kernel
theorem dM_smalls_63 : decode cM_smalls 63 = .ok (.ior, 1) := by decide +kernel
theorem dM_smalls_64 : decode cM_smalls 64 = .ok (.invokevirtual 556, 3) := by decide +kernel
theorem dM_smalls_67 : decode cM_smalls 67 = .ok (.goto (239), 3) := by decide +kernel
theorem dM_smalls_70 : decode cM_smalls 70 = .ok (.iload_n 1, 1) := by decide +kernel
theorem dM_smalls_71 : decode cM_smalls 71 = .ok (.bipush 16, 2) := by decide +kernel
theorem dM_smalls_73 : decode cM_smalls 73 = .ok (.if_icmp .ge (102), 3) := by decide +kernel
theorem dM_smalls_76 : decode cM_smalls 76 = .ok (.aload_n 0, 1) := by decide +kernel
theorem dM_smalls_77 : decode cM_smalls 77 = .ok (.iconst 0, 1) := by decide +kernel
theorem dM_smalls_78 : decode cM_smalls 78 = .ok (.bipush 124, 2) := by decide +kernel
theorem dM_smalls_80 : decode cM_smalls 80 = .ok (.iconst 4, 1) := by decide +kernel
theorem dM_smalls_81 : decode cM_smalls 81 = .ok (.invokevirtual 594, 3) := by decide +kernel
theorem dM_smalls_84 : decode cM_smalls 84 = .ok (.istore 4, 2) := by decide +kernel
theorem dM_smalls_86 : decode cM_smalls 86 = .ok (.aload_n 0, 1) := by decide +kernel
theorem dM_smalls_87 : decode cM_smalls 87 = .ok (.getfield 420, 3) := by decide +kernel
theorem dM_smalls_90 : decode cM_smalls 90 = .ok (.ifCond .ne (19), 3) := by decide +kernel
theorem dM_smalls_93 : decode cM_smalls 93 = .ok (.aload_n 0, 1) := by decide +kernel
theorem dM_smalls_94 : decode cM_smalls 94 = .ok (.bipush 40, 2) := by decide +kernel
theorem dM_smalls_96 : decode cM_smalls 96 = .ok (.invokevirtual 515, 3) := by decide +kernel
theorem dM_smalls_99 : decode cM_smalls 99 = .ok (.ifCond .eq (10), 3) := by decide +kernel
theorem dM_smalls_102 : decode cM_smalls 102 = .ok (.aload_n 0, 1) := by decide +kernel
theorem dM_smalls_103 : decode cM_smalls 103 = .ok (.invokevirtual 623, 3) := by decide +kernel
theorem dM_smalls_106 : decode cM_smalls 106 = .ok (.goto (4), 3) := by decide +kernel
theorem dM_smalls_109 : decode cM_smalls 109 = .ok (.iconst 0, 1) := by decide +kernel
theorem dM_smalls_110 : decode cM_smalls 110 = .ok (.istore 5, 2) := by decide +kernel
theorem dM_smalls_112 : decode cM_smalls 112 = .ok (.aload_n 0, 1) := by decide +kernel
theorem dM_smalls_113 : decode cM_smalls 113 = .ok (.getfield 420, 3) := by decide +kernel
theorem dM_smalls_116 : decode cM_smalls 116 = .ok (.ifCond .ne (10), 3) := by decide +kernel
theorem dM_smalls_119 : decode cM_smalls 119 = .ok (.aload_n 0, 1) := by decide +kernel
theorem dM_smalls_120 : decode cM_smalls 120 = .ok (.bipush 41, 2) := by decide +kernel
theorem dM_smalls_122 : decode cM_smalls 122 = .ok (.invokevirtual 515, 3) := by decide +kernel
theorem dM_smalls_125 : decode cM_smalls 125 = .ok (.pop, 1) := by decide +kernel
theorem dM_smalls_126 : decode cM_smalls 126 = .ok (.aload_n 0, 1) := by decide +kernel
theorem dM_smalls_127 : decode cM_smalls 127 = .ok (.iload_n 2, 1) := by decide +kernel
theorem dM_smalls_128 : decode cM_smalls 128 = .ok (.iload 4, 2) := by decide +kernel
theorem dM_smalls_130 : decode cM_smalls 130 = .ok (.iconst 5, 1) := by decide +kernel
theorem dM_smalls_131 : decode cM_smalls 131 = .ok (.iconst 3, 1) := by decide +kernel
theorem dM_smalls_132 : decode cM_smalls 132 = .ok (.bipush 10, 2) := by decide +kernel
theorem dM_smalls_134 : decode cM_smalls 134 = .ok (.invokestatic 559, 3) := by decide +kernel
theorem dM_smalls_137 : decode cM_smalls 137 = .ok (.ior, 1) := by decide +kernel
theorem dM_smalls_138 : decode cM_smalls 138 = .ok (.iload 4, 2) := by decide +kernel
theorem dM_smalls_140 : decode cM_smalls 140 = .ok (.iconst 2, 1) := by decide +kernel
theorem dM_smalls_141 : decode cM_smalls 141 = .ok (.iconst 2, 1) := by decide +kernel
theorem dM_smalls_142 : decode cM_smalls 142 = .ok (.bipush 6, 2) := by decide +kernel
theorem dM_smalls_144 : decode cM_smalls 144 = .ok (.invokestatic 559, 3) := by decide +kernel
theorem dM_smalls_147 : decode cM_smalls 147 = .ok (.ior, 1) := by decide +kernel
theorem dM_smalls_148 : decode cM_smalls 148 = .ok (.iload 4, 2) := by decide +kernel
theorem dM_smalls_150 : decode cM_smalls 150 = .ok (.bipush 6, 2) := by decide +kernel
theorem dM_smalls_152 : decode cM_smalls 152 = .ok (.bipush 6, 2) := by decide +kernel
theorem dM_smalls_154 : decode cM_smalls 154 = .ok (.iconst 5, 1) := by decide +kernel
theorem dM_smalls_155 : decode cM_smalls 155 = .ok (.invokestatic 559, 3) := by decide +kernel
theorem dM_smalls_158 : decode cM_smalls 158 = .ok (.ior, 1) := by decide +kernel
theorem dM_smalls_159 : decode cM_smalls 159 = .ok (.iload 5, 2) := by decide +kernel
theorem dM_smalls_161 : decode cM_smalls 161 = .ok (.bipush 7, 2) := by decide +kernel
theorem dM_smalls_163 : decode cM_smalls 163 = .ok (.ishl, 1) := by decide +kernel
theorem dM_smalls_164 : decode cM_smalls 164 = .ok (.ior, 1) := by decide +kernel
theorem dM_smalls_165 : decode cM_smalls 165 = .ok (.iload_n 3, 1) := by decide +kernel
theorem dM_smalls_166 : decode cM_smalls 166 = .ok (.iconst 2, 1) := by decide +kernel
theorem dM_smalls_167 : decode cM_smalls 167 = .ok (.ishl, 1) := by decide +kernel
theorem dM_smalls_168 : decode cM_smalls 168 = .ok (.ior, 1) := by decide +kernel
theorem dM_smalls_169 : decode cM_smalls 169 = .ok (.invokevirtual 556, 3) := by decide +kernel
theorem dM_smalls_172 : decode cM_smalls 172 = .ok (.goto (134), 3) := by decide +kernel
theorem dM_smalls_175 : decode cM_smalls 175 = .ok (.iload_n 1, 1) := by decide +kernel
theorem dM_smalls_176 : decode cM_smalls 176 = .ok (.bipush 21, 2) := by decide +kernel
theorem dM_smalls_178 : decode cM_smalls 178 = .ok (.if_icmp .ne (30), 3) := by decide +kernel
theorem dM_smalls_181 : decode cM_smalls 181 = .ok (.aload_n 0, 1) := by decide +kernel
theorem dM_smalls_182 : decode cM_smalls 182 = .ok (.iload_n 2, 1) := by decide +kernel
theorem dM_smalls_183 : decode cM_smalls 183 = .ok (.iload_n 3, 1) := by decide +kernel
theorem dM_smalls_184 : decode cM_smalls 184 = .ok (.bipush 7, 2) := by decide +kernel
theorem dM_smalls_186 : decode cM_smalls 186 = .ok (.ishl, 1) := by decide +kernel
theorem dM_smalls_187 : decode cM_smalls 187 = .ok (.ior, 1) := by decide +kernel
theorem dM_smalls_188 : decode cM_smalls 188 = .ok (.aload_n 0, 1) := by decide +kernel
theorem dM_smalls_189 : decode cM_smalls 189 = .ok (.iconst 0, 1) := by decide +kernel
theorem dM_smalls_190 : decode cM_smalls 190 = .ok (.bipush 31, 2) := by decide +kernel
theorem dM_smalls_192 : decode cM_smalls 192 = .ok (.iconst 1, 1) := by decide +kernel
theorem dM_smalls_193 : decode cM_smalls 193 = .ok (.invokevirtual 594, 3) := by decide +kernel
theorem dM_smalls_196 : decode cM_smalls 196 = .ok (.bipush 31, 2) := by decide +kernel
theorem dM_smalls_198 : decode cM_smalls 198 = .ok (.iand, 1) := by decide +kernel
theorem dM_smalls_199 : decode cM_smalls 199 = .ok (.iconst 2, 1) := by decide +kernel
theorem dM_smalls_200 : decode cM_smalls 200 = .ok (.ishl, 1) := by decide +kernel
theorem dM_smalls_201 : decode cM_smalls 201 = .ok (.ior, 1) := by decide +kernel
theorem dM_smalls_202 : decode cM_smalls 202 = .ok (.invokevirtual 556, 3) := by decide +kernel
theorem dM_smalls_205 : decode cM_smalls 205 = .ok (.goto (101), 3) := by decide +kernel
theorem dM_smalls_208 : decode cM_smalls 208 = .ok (.iload_n 1, 1) := by decide +kernel
theorem dM_smalls_209 : decode cM_smalls 209 = .ok (.bipush 22, 2) := by decide +kernel
theorem dM_smalls_211 : decode cM_smalls 211 = .ok (.if_icmp .ne (29), 3) := by decide +kernel
theorem dM_smalls_214 : decode cM_smalls 214 = .ok (.aload_n 0, 1) := by decide +kernel
theorem dM_smalls_215 : decode cM_smalls 215 = .ok (.iload_n 2, 1) := by decide +kernel
theorem dM_smalls_216 : decode cM_smalls 216 = .ok (.iload_n 3, 1) := by decide +kernel
theorem dM_smalls_217 : decode cM_smalls 217 = .ok (.bipush 7, 2) := by decide +kernel
theorem dM_smalls_219 : decode cM_smalls 219 = .ok (.ishl, 1) := by decide +kernel
theorem dM_smalls_220 : decode cM_smalls 220 = .ok (.ior, 1) := by decide +kernel
theorem dM_smalls_221 : decode cM_smalls 221 = .ok (.aload_n 0, 1) := by decide +kernel
theorem dM_smalls_222 : decode cM_smalls 222 = .ok (.bipush (-32), 2) := by decide +kernel
theorem dM_smalls_224 : decode cM_smalls 224 = .ok (.bipush 31, 2) := by decide +kernel
theorem dM_smalls_226 : decode cM_smalls 226 = .ok (.iconst 1, 1) := by decide +kernel
theorem dM_smalls_227 : decode cM_smalls 227 = .ok (.invokevirtual 594, 3) := by decide +kernel
theorem dM_smalls_230 : decode cM_smalls 230 = .ok (.invokestatic 617, 3) := by decide +kernel
theorem dM_smalls_233 : decode cM_smalls 233 = .ok (.ior, 1) := by decide +kernel
theorem dM_smalls_234 : decode cM_smalls 234 = .ok (.invokevirtual 556, 3) := by decide +kernel
theorem dM_smalls_237 : decode cM_smalls 237 = .ok (.goto (69), 3) := by decide +kernel
theorem dM_smalls_240 : decode cM_smalls 240 = .ok (.iload_n 1, 1) := by decide +kernel
theorem dM_smalls_241 : decode cM_smalls 241 = .ok (.bipush 23, 2) := by decide +kernel
theorem dM_smalls_243 : decode cM_smalls 243 = .ok (.if_icmp .ne (23), 3) := by decide +kernel
theorem dM_smalls_246 : decode cM_smalls 246 = .ok (.aload_n 0, 1) := by decide +kernel
theorem dM_smalls_247 : decode cM_smalls 247 = .ok (.iload_n 2, 1) := by decide +kernel
theorem dM_smalls_248 : decode cM_smalls 248 = .ok (.iload_n 3, 1) := by decide +kernel
theorem dM_smalls_249 : decode cM_smalls 249 = .ok (.bipush 7, 2) := by decide +kernel
theorem dM_smalls_251 : decode cM_smalls 251 = .ok (.ishl, 1) := by decide +kernel
theorem dM_smalls_252 : decode cM_smalls 252 = .ok (.ior, 1) := by decide +kernel
theorem dM_smalls_253 : decode cM_smalls 253 = .ok (.aload_n 0, 1) := by decide +kernel
theorem dM_smalls_254 : decode cM_smalls 254 = .ok (.invokevirtual 623, 3) := by decide +kernel
theorem dM_smalls_257 : decode cM_smalls 257 = .ok (.iconst 2, 1) := by decide +kernel
theorem dM_smalls_258 : decode cM_smalls 258 = .ok (.ishl, 1) := by decide +kernel
theorem dM_smalls_259 : decode cM_smalls 259 = .ok (.ior, 1) := by decide +kernel
theorem dM_smalls_260 : decode cM_smalls 260 = .ok (.invokevirtual 556, 3) := by decide +kernel
theorem dM_smalls_263 : decode cM_smalls 263 = .ok (.goto (43), 3) := by decide +kernel
theorem dM_smalls_266 : decode cM_smalls 266 = .ok (.aload_n 0, 1) := by decide +kernel
theorem dM_smalls_267 : decode cM_smalls 267 = .ok (.invokevirtual 534, 3) := by decide +kernel
theorem dM_smalls_270 : decode cM_smalls 270 = .ok (.aload_n 0, 1) := by decide +kernel
theorem dM_smalls_271 : decode cM_smalls 271 = .ok (.getfield 495, 3) := by decide +kernel
theorem dM_smalls_274 : decode cM_smalls 274 = .ok (.isub, 1) := by decide +kernel
theorem dM_smalls_275 : decode cM_smalls 275 = .ok (.istore 4, 2) := by decide +kernel
theorem dM_smalls_277 : decode cM_smalls 277 = .ok (.aload_n 0, 1) := by decide +kernel
theorem dM_smalls_278 : decode cM_smalls 278 = .ok (.iload 4, 2) := by decide +kernel
theorem dM_smalls_280 : decode cM_smalls 280 = .ok (.sipush (-256), 3) := by decide +kernel
theorem dM_smalls_283 : decode cM_smalls 283 = .ok (.sipush 254, 3) := by decide +kernel
theorem dM_smalls_286 : decode cM_smalls 286 = .ok (.iconst 2, 1) := by decide +kernel
theorem dM_smalls_287 : decode cM_smalls 287 = .ok (.invokevirtual 537, 3) := by decide +kernel
theorem dM_smalls_290 : decode cM_smalls 290 = .ok (.aload_n 0, 1) := by decide +kernel
theorem dM_smalls_291 : decode cM_smalls 291 = .ok (.iload_n 2, 1) := by decide +kernel
theorem dM_smalls_292 : decode cM_smalls 292 = .ok (.iload_n 3, 1) := by decide +kernel
theorem dM_smalls_293 : decode cM_smalls 293 = .ok (.bipush 7, 2) := by decide +kernel
theorem dM_smalls_295 : decode cM_smalls 295 = .ok (.ishl, 1) := by decide +kernel
theorem dM_smalls_296 : decode cM_smalls 296 = .ok (.ior, 1) := by decide +kernel
theorem dM_smalls_297 : decode cM_smalls 297 = .ok (.iload 4, 2) := by decide +kernel
theorem dM_smalls_299 : decode cM_smalls 299 = .ok (.invokestatic 582, 3) := by decide +kernel
theorem dM_smalls_302 : decode cM_smalls 302 = .ok (.ior, 1) := by decide +kernel
theorem dM_smalls_303 : decode cM_smalls 303 = .ok (.invokevirtual 556, 3) := by decide +kernel
theorem dM_smalls_306 : decode cM_smalls 306 = .ok (.return_, 1) := by decide +kernel
theorem gM_near8_623 : GoodIn lw_gd (wsV RM 623 RM yM_near8 (.code yM_near8 cM_near8 2 (some .int) :: lw_gd)) := lw_GV q_2070 q_2067 q_2069 qs_106 q_23
theorem gM_notZero_620 : GoodIn lw_gd (wsV RM 620 RM yM_notZero (.code yM_notZero cM_notZero 2 none :: lw_gd)) := lw_GV q_2066 q_2063 q_2065 qs_105 q_23
theorem gM_six_617 : GoodIn lw_gd (wsS RM 617 yM_six (.code yM_six cM_six 1 (some .int) :: lw_gd)) := lw_GS q_2081 q_2079 q_2080 q_23
section
variable {p : Program} {l : Launch} {e : Env} {s : State} {m : MethodId} {args : Array Value} {below : List Frame} {meth : Method} {c : Code} {D : va_G} {dA : Nat → ClassId} {h : Nat → Nat} {A : Nat → Prop}
def M_named_10 (N : Nat)  : Nat → Int64 → Int32 → MS → Option Int32
  | 0 => fun _ _ _ => none
  | n + 1 => fun z3 x5 σ => (if (128 : Int32) ≤ x5 then some (-1 : Int32) else gd (inB x5 128) ((if (lg_cmp (M_names x5.toNatClampNeg) z3) = 0 then some x5 else (M_named_10 N  n) z3 (x5 + (1 : Int32)) σ)))
set_option maxHeartbeats 4000000 in
set_option maxRecDepth 100000 in
theorem bM_named_10 (N : Nat)  {r : Int32} (C : CxM p s m args meth c cM_named 6 (some .int) D dA A) : ∀ (n : Nat) (z3 : Int64) (x5 : Int32) (σ : MS), M_named_10 N  n z3 x5 σ = some r → WdM D dA h A s σ s.heap [] → ∀ (ls : Array Slot), lv_has ls 6 [(0, .ref (h 0)), (3, .long z3), (5, .int x5)] → W p l e rm_named s m args below meth c s.heap [] 0 0 (MQ below (QS (some (.int r))) args s 0 0 (fun _ => False)) (F0 m 10 ls []) := by
  have hx := C.1.1
  have hb := C.1.2.1
  have hown := C.1.2.2.2.2.1
  have hT := C.1.2.2.2.2.2.1
  intro n
  induction n with
  | zero => intro z3 x5 σ hM; cases hM
  | succ n hrec10 =>
    intro z3 x5 σ hM hW ls hl
    rw [M_named_10] at hM
    refine lv_iload (pc := 10) hx hb dM_named_10 (lv_at hl 2 rfl) ?_
    refine lv_aload_n (pc := 12) hx hb dM_named_12 rfl (lv_at hl 0 rfl) ?_
    refine gM (pc := 13) C hW 0 (by decide) q_1657 rfl rfl dM_named_13 ?_
    refine x_alen (pc := 16) (v := 128) C hW 1 0 rfl rfl (by decide) dM_named_16 ?_
    refine lv_icmp_ge (pc := 17) (tgt := 41) hx hb dM_named_17 (by decide) (fun hc => ?_) (fun hc => ?_)
    · replace hM := it_t hc hM
      refine lv_iconst (pc := 41) (v := -1) hx hb dM_named_41 (by decide) ?_
      obtain rfl := sm_i hM
      exact x_retS (pc := 42) C.1 rfl dM_named_42
    · replace hM := it_f hc hM
      refine lv_aload_n (pc := 20) hx hb dM_named_20 rfl (lv_at hl 0 rfl) ?_
      refine gM (pc := 21) C hW 0 (by decide) q_1657 rfl rfl dM_named_21 ?_
      refine lv_iload (pc := 24) hx hb dM_named_24 (lv_at hl 2 rfl) ?_
      obtain ⟨hg1, hM⟩ := gd_some hM
      refine x_ldL (pc := 26) C hW 1 rfl hg1 dM_named_26 ?_
      refine lv_lload_n (pc := 27) hx hb dM_named_27 rfl (lv_at hl 1 rfl) ?_
      refine W.lcmp (pc := 28) hx hb dM_named_28 ?_
      refine lv_if_ne (pc := 29) (tgt := 35) hx hb dM_named_29 (by decide) (fun hc => ?_) (fun hc => ?_)
      · replace hM := it_f hc hM
        refine lv_iinc (pc := 35) (v := x5 + (1 : Int32)) (lv' := [(5, .int (x5 + (1 : Int32))), (0, .ref (h 0)), (3, .long z3)]) hx hb dM_named_35 hl (k := 2) rfl rfl (by decide) rfl (fun ls hl => ?_)
        refine lv_goto (pc := 38) (tgt := 10) hx hb dM_named_38 (by decide) ?_
        exact hrec10 _ _ _ hM hW _ (lv_sub hl [1, 2, 0] rfl)
      · replace hM := it_t hc hM
        refine lv_iload (pc := 32) hx hb dM_named_32 (lv_at hl 2 rfl) ?_
        obtain rfl := sm_i hM
        exact x_retS (pc := 34) C.1 rfl dM_named_34
def M_named (N : Nat) (x1 : Int32) (x2 : Int32) (σ : MS) : Option Int32 :=
  cr (M_packed N x1 x2 σ) (fun r1 => M_named_10 N  N r1 (0 : Int32) σ)
set_option maxHeartbeats 4000000 in
set_option maxRecDepth 100000 in
theorem bM_named_0 (N : Nat)  {r : Int32} (C : CxM p s m args meth c cM_named 6 (some .int) D dA A) (x1 : Int32) (x2 : Int32) (σ : MS) (hM : M_named N  x1 x2 σ = some r) (hW : WdM D dA h A s σ s.heap []) (ls : Array Slot) (hl : lv_has ls 6 [(0, .ref (h 0)), (1, .int x1), (2, .int x2)]) : W p l e rm_named s m args below meth c s.heap [] 0 0 (MQ below (QS (some (.int r))) args s 0 0 (fun _ => False)) (F0 m 0 ls []) := by
  have hx := C.1.1
  have hb := C.1.2.1
  have hown := C.1.2.2.2.2.1
  have hT := C.1.2.2.2.2.2.1
  unfold M_named at hM
  refine lv_aload_n (pc := 0) hx hb dM_named_0 rfl (lv_at hl 0 rfl) ?_
  refine lv_iload_n (pc := 1) hx hb dM_named_1 rfl (lv_at hl 1 rfl) ?_
  refine lv_iload_n (pc := 2) hx hb dM_named_2 rfl (lv_at hl 2 rfl) ?_
  obtain ⟨r1, hr1, hM⟩ := cr_some hM
  refine x_callRl (pc := 3) C hW (kM_packed l D dA h N x1 x2 _ hr1) gM_packed_433 ⟨rfl, by decide, by decide, by decide +kernel⟩ ⟨rfl, rfl⟩ ⟨by decide, by decide⟩ ⟨by decide, by decide⟩ (As := [.int x1, .int x2]) (n := 2) rfl hl.1 rfl (Nat.le_of_ble_eq_true rfl) dM_named_3 ?_
  refine lv_lstore_n (pc := 6) (lv' := [(3, .long r1), (0, .ref (h 0)), (1, .int x1), (2, .int x2)]) hx hb dM_named_6 rfl hl (by decide) rfl (fun ls hl => ?_)
  refine lv_iconst (pc := 7) (v := 0) hx hb dM_named_7 (by decide) ?_
  refine lv_istore (pc := 8) (lv' := [(5, .int (0 : Int32)), (3, .long r1), (0, .ref (h 0)), (1, .int x1), (2, .int x2)]) hx hb dM_named_8 hl (by decide) rfl (fun ls hl => ?_)
  exact bM_named_10 N  C  N _ _ _ hM hW _ (lv_sub hl [2, 1, 0] rfl)
theorem kM_named (l : Launch) (D : va_G) (dA : Nat → ClassId) (h : Nat → Nat) (N : Nat) (x1 : Int32) (x2 : Int32) (σ : MS) {r : Int32} (hM : M_named N x1 x2 σ = some r) : KR l D dA yM_named cM_named 6 (some .int) rm_named h σ [.int x1, .int x2] (some (.int r)) := x_enterR rfl (Nat.le_of_ble_eq_true rfl) (fun p e s m args below meth c A C hW ls hl => bM_named_0 N C x1 x2 σ hM hW ls hl)
def M_six (x0 : Int32) : Option Int32 :=
  cr (M_bits  x0 (5 : Int32) (5 : Int32) (12 : Int32)) (fun r1 => cr (M_bits  x0 (4 : Int32) (0 : Int32) (2 : Int32)) (fun r2 => some (r1 ||| r2)))
set_option maxHeartbeats 4000000 in
set_option maxRecDepth 100000 in
theorem bM_six_0  {r : Int32} (C : CxS RM p s m args meth c cM_six 1 (some .int)) (x0 : Int32) (hM : M_six  x0 = some r) (ls : Array Slot) (hl : lv_has ls 1 [(0, .int x0)]) : W p l e rm_six s m args below meth c s.heap [] 0 0 (MQ below (QS (some (.int r))) args s 0 0 (fun _ => False)) (F0 m 0 ls []) := by
  have hx := C.1
  have hb := C.2.1
  have hown := C.2.2.2.2.1
  have hT := C.2.2.2.2.2.1
  unfold M_six at hM
  refine lv_iload_n (pc := 0) hx hb dM_six_0 rfl (lv_at hl 0 rfl) ?_
  refine lv_iconst (pc := 1) (v := 5) hx hb dM_six_1 (by decide) ?_
  refine lv_iconst (pc := 2) (v := 5) hx hb dM_six_2 (by decide) ?_
  refine lv_bipush (pc := 3) (v := 12) hx hb dM_six_3 (by decide) ?_
  obtain ⟨r1, hr1, hM⟩ := cr_some hM
  refine x_callSi (pc := 5) C (kM_bits l  x0 (5 : Int32) (5 : Int32) (12 : Int32) hr1) gM_bits_559 ⟨rfl, by decide, by decide, by decide +kernel⟩ ⟨rfl, rfl⟩ ⟨by decide, by decide⟩ ⟨by decide, by decide⟩ (As := [.int x0, .int (5 : Int32), .int (5 : Int32), .int (12 : Int32)]) (n := 4) rfl hl.1 rfl (Nat.le_of_ble_eq_true rfl) dM_six_5 ?_
  refine lv_iload_n (pc := 8) hx hb dM_six_8 rfl (lv_at hl 0 rfl) ?_
  refine lv_iconst (pc := 9) (v := 4) hx hb dM_six_9 (by decide) ?_
  refine lv_iconst (pc := 10) (v := 0) hx hb dM_six_10 (by decide) ?_
  refine lv_iconst (pc := 11) (v := 2) hx hb dM_six_11 (by decide) ?_
  obtain ⟨r2, hr2, hM⟩ := cr_some hM
  refine x_callSi (pc := 12) C (kM_bits l  x0 (4 : Int32) (0 : Int32) (2 : Int32) hr2) gM_bits_559 ⟨rfl, by decide, by decide, by decide +kernel⟩ ⟨rfl, rfl⟩ ⟨by decide, by decide⟩ ⟨by decide, by decide⟩ (As := [.int x0, .int (4 : Int32), .int (0 : Int32), .int (2 : Int32)]) (n := 4) rfl hl.1 rfl (Nat.le_of_ble_eq_true rfl) dM_six_12 ?_
  refine lv_ior (pc := 15) hx hb dM_six_15 ?_
  obtain rfl := sm_i hM
  exact x_retS (pc := 16) C rfl dM_six_16
theorem kM_six (l : Launch) (x0 : Int32) {r : Int32} (hM : M_six x0 = some r) : KS l yM_six cM_six 1 (some .int) rm_six [.int x0] (some (.int r)) := x_enterS (by decide +kernel) (Nat.le_of_ble_eq_true rfl) (fun p e s m args below meth c C ls hl => bM_six_0 C x0 hM ls hl)
def M_others_321 (N : Nat)  (σ : MS) : Option (Int32 × MS) :=
  some ((0 : Int32), σ)
set_option maxHeartbeats 4000000 in
set_option maxRecDepth 100000 in
theorem bM_others_321 (N : Nat)  {r : Int32} {σ' : MS} (C : CxM p s m args meth c cM_others 7 none D dA A)  (σ : MS) (hM : M_others_321 N   σ = some (r, σ')) (H : Heap) (locs : List Loc) (hW : WdM D dA h A s σ H locs) (ls : Array Slot) (hl : lv_has ls 7 []) : W p l e rm_others s m args below meth c H locs 0 0 (MQ below (QM D dA h A σ' none) args s 0 0 A) (F0 m 321 ls []) := by
  have hx := C.1.1
  have hb := C.1.2.1
  have hown := C.1.2.2.2.2.1
  have hT := C.1.2.2.2.2.2.1
  unfold M_others_321 at hM
  obtain ⟨rfl, rfl⟩ := sm_p hM
  exact x_retMv (pc := 321) C rfl hW dM_others_321
def M_others_304 (N : Nat) (x3 : Int32) (x4 : Int32) (σ : MS) : Option (Int32 × MS) :=
  cl (M_word  (((19 : Int32) ||| (x3 <<< ((7 : Int32) &&& 31))) ||| (x4 <<< ((20 : Int32) &&& 31))) σ) (fun r1 σ2 => M_others_321 N  σ2)
set_option maxHeartbeats 4000000 in
set_option maxRecDepth 100000 in
theorem bM_others_304 (N : Nat)  {r : Int32} {σ' : MS} (C : CxM p s m args meth c cM_others 7 none D dA A) (x3 : Int32) (x4 : Int32) (σ : MS) (hM : M_others_304 N  x3 x4 σ = some (r, σ')) (H : Heap) (locs : List Loc) (hW : WdM D dA h A s σ H locs) (ls : Array Slot) (hl : lv_has ls 7 [(0, .ref (h 0)), (3, .int x3), (4, .int x4)]) : W p l e rm_others s m args below meth c H locs 0 0 (MQ below (QM D dA h A σ' none) args s 0 0 A) (F0 m 304 ls []) := by
  have hx := C.1.1
  have hb := C.1.2.1
  have hown := C.1.2.2.2.2.1
  have hT := C.1.2.2.2.2.2.1
  unfold M_others_304 at hM
  refine lv_aload_n (pc := 304) hx hb dM_others_304 rfl (lv_at hl 0 rfl) ?_
  refine lv_bipush (pc := 305) (v := 19) hx hb dM_others_305 (by decide) ?_
  refine lv_iload_n (pc := 307) hx hb dM_others_307 rfl (lv_at hl 1 rfl) ?_
  refine lv_bipush (pc := 308) (v := 7) hx hb dM_others_308 (by decide) ?_
  refine lv_ishl (pc := 310) hx hb dM_others_310 ?_
  refine lv_ior (pc := 311) hx hb dM_others_311 ?_
  refine lv_iload (pc := 312) hx hb dM_others_312 (lv_at hl 2 rfl) ?_
  refine lv_bipush (pc := 314) (v := 20) hx hb dM_others_314 (by decide) ?_
  refine lv_ishl (pc := 316) hx hb dM_others_316 ?_
  refine lv_ior (pc := 317) hx hb dM_others_317 ?_
  obtain ⟨r1, σ2, hr1, hM⟩ := cl_some hM
  refine x_callMv (pc := 318) C hW (kM_word l D dA h  (((19 : Int32) ||| (x3 <<< ((7 : Int32) &&& 31))) ||| (x4 <<< ((20 : Int32) &&& 31))) _ hr1) gM_word_579 ⟨rfl, by decide, by decide, by decide +kernel⟩ ⟨rfl, rfl⟩ ⟨by decide, by decide⟩ ⟨by decide, by decide⟩ (As := [.int (((19 : Int32) ||| (x3 <<< ((7 : Int32) &&& 31))) ||| (x4 <<< ((20 : Int32) &&& 31)))]) (n := 1) rfl hl.1 rfl (Nat.le_of_ble_eq_true rfl) dM_others_318 (fun H locs hW => ?_)
  exact bM_others_321 N  C   _ hM _ _ hW _ (lv_sub hl [] rfl)
def M_others_264 (N : Nat) (x1 : Int32) (x3 : Int32) (x4 : Int32) (σ : MS) : Option (Int32 × MS) :=
  (if x1 = (39 : Int32) then (if x4 ≤ (-2049 : Int32) then M_others_321 N  σ else (if (2048 : Int32) ≤ x4 then M_others_321 N  σ else (if x3 = 0 then M_others_304 N  x3 x4 σ else (if x4 < (-32 : Int32) then M_others_304 N  x3 x4 σ else (if x4 ≤ (31 : Int32) then M_others_321 N  σ else M_others_304 N  x3 x4 σ))))) else M_others_321 N  σ)
set_option maxHeartbeats 4000000 in
set_option maxRecDepth 100000 in
theorem bM_others_264 (N : Nat)  {r : Int32} {σ' : MS} (C : CxM p s m args meth c cM_others 7 none D dA A) (x1 : Int32) (x3 : Int32) (x4 : Int32) (σ : MS) (hM : M_others_264 N  x1 x3 x4 σ = some (r, σ')) (H : Heap) (locs : List Loc) (hW : WdM D dA h A s σ H locs) (ls : Array Slot) (hl : lv_has ls 7 [(0, .ref (h 0)), (1, .int x1), (3, .int x3), (4, .int x4)]) : W p l e rm_others s m args below meth c H locs 0 0 (MQ below (QM D dA h A σ' none) args s 0 0 A) (F0 m 264 ls []) := by
  have hx := C.1.1
  have hb := C.1.2.1
  have hown := C.1.2.2.2.2.1
  have hT := C.1.2.2.2.2.2.1
  unfold M_others_264 at hM
  refine lv_iload_n (pc := 264) hx hb dM_others_264 rfl (lv_at hl 1 rfl) ?_
  refine lv_bipush (pc := 265) (v := 39) hx hb dM_others_265 (by decide) ?_
  refine lv_icmp_ne (pc := 267) (tgt := 321) hx hb dM_others_267 (by decide) (fun hc => ?_) (fun hc => ?_)
  · replace hM := it_f hc hM
    exact bM_others_321 N  C   _ hM _ _ hW _ (lv_sub hl [] rfl)
  · replace hM := it_t hc hM
    refine lv_iload (pc := 270) hx hb dM_others_270 (lv_at hl 3 rfl) ?_
    refine lv_sipush (pc := 272) (v := -2049) hx hb dM_others_272 (by decide) ?_
    refine lv_icmp_le (pc := 275) (tgt := 321) hx hb dM_others_275 (by decide) (fun hc => ?_) (fun hc => ?_)
    · replace hM := it_t hc hM
      exact bM_others_321 N  C   _ hM _ _ hW _ (lv_sub hl [] rfl)
    · replace hM := it_f hc hM
      refine lv_iload (pc := 278) hx hb dM_others_278 (lv_at hl 3 rfl) ?_
      refine lv_sipush (pc := 280) (v := 2048) hx hb dM_others_280 (by decide) ?_
      refine lv_icmp_ge (pc := 283) (tgt := 321) hx hb dM_others_283 (by decide) (fun hc => ?_) (fun hc => ?_)
      · replace hM := it_t hc hM
        exact bM_others_321 N  C   _ hM _ _ hW _ (lv_sub hl [] rfl)
      · replace hM := it_f hc hM
        refine lv_iload_n (pc := 286) hx hb dM_others_286 rfl (lv_at hl 2 rfl) ?_
        refine lv_if_eq (pc := 287) (tgt := 304) hx hb dM_others_287 (by decide) (fun hc => ?_) (fun hc => ?_)
        · replace hM := it_t hc hM
          exact bM_others_304 N  C  _ _ _ hM _ _ hW _ (lv_sub hl [0, 2, 3] rfl)
        · replace hM := it_f hc hM
          refine lv_iload (pc := 290) hx hb dM_others_290 (lv_at hl 3 rfl) ?_
          refine lv_bipush (pc := 292) (v := -32) hx hb dM_others_292 (by decide) ?_
          refine lv_icmp_lt (pc := 294) (tgt := 304) hx hb dM_others_294 (by decide) (fun hc => ?_) (fun hc => ?_)
          · replace hM := it_t hc hM
            exact bM_others_304 N  C  _ _ _ hM _ _ hW _ (lv_sub hl [0, 2, 3] rfl)
          · replace hM := it_f hc hM
            refine lv_iload (pc := 297) hx hb dM_others_297 (lv_at hl 3 rfl) ?_
            refine lv_bipush (pc := 299) (v := 31) hx hb dM_others_299 (by decide) ?_
            refine lv_icmp_le (pc := 301) (tgt := 321) hx hb dM_others_301 (by decide) (fun hc => ?_) (fun hc => ?_)
            · replace hM := it_t hc hM
              exact bM_others_321 N  C   _ hM _ _ hW _ (lv_sub hl [] rfl)
            · replace hM := it_f hc hM
              exact bM_others_304 N  C  _ _ _ hM _ _ hW _ (lv_sub hl [0, 2, 3] rfl)
def M_others_242 (N : Nat) (x1 : Int32) (x3 : Int32) (x4 : Int32) (x6 : Int32) (σ : MS) : Option (Int32 × MS) :=
  cl (M_word  ((((19 : Int32) ||| (x3 <<< ((7 : Int32) &&& 31))) ||| (x3 <<< ((15 : Int32) &&& 31))) ||| (x6 <<< ((20 : Int32) &&& 31))) σ) (fun r1 σ2 => M_others_264 N  x1 x3 x4 σ2)
set_option maxHeartbeats 4000000 in
set_option maxRecDepth 100000 in
theorem bM_others_242 (N : Nat)  {r : Int32} {σ' : MS} (C : CxM p s m args meth c cM_others 7 none D dA A) (x1 : Int32) (x3 : Int32) (x4 : Int32) (x6 : Int32) (σ : MS) (hM : M_others_242 N  x1 x3 x4 x6 σ = some (r, σ')) (H : Heap) (locs : List Loc) (hW : WdM D dA h A s σ H locs) (ls : Array Slot) (hl : lv_has ls 7 [(0, .ref (h 0)), (1, .int x1), (3, .int x3), (4, .int x4), (6, .int x6)]) : W p l e rm_others s m args below meth c H locs 0 0 (MQ below (QM D dA h A σ' none) args s 0 0 A) (F0 m 242 ls []) := by
  have hx := C.1.1
  have hb := C.1.2.1
  have hown := C.1.2.2.2.2.1
  have hT := C.1.2.2.2.2.2.1
  unfold M_others_242 at hM
  refine lv_aload_n (pc := 242) hx hb dM_others_242 rfl (lv_at hl 0 rfl) ?_
  refine lv_bipush (pc := 243) (v := 19) hx hb dM_others_243 (by decide) ?_
  refine lv_iload_n (pc := 245) hx hb dM_others_245 rfl (lv_at hl 2 rfl) ?_
  refine lv_bipush (pc := 246) (v := 7) hx hb dM_others_246 (by decide) ?_
  refine lv_ishl (pc := 248) hx hb dM_others_248 ?_
  refine lv_ior (pc := 249) hx hb dM_others_249 ?_
  refine lv_iload_n (pc := 250) hx hb dM_others_250 rfl (lv_at hl 2 rfl) ?_
  refine lv_bipush (pc := 251) (v := 15) hx hb dM_others_251 (by decide) ?_
  refine lv_ishl (pc := 253) hx hb dM_others_253 ?_
  refine lv_ior (pc := 254) hx hb dM_others_254 ?_
  refine lv_iload (pc := 255) hx hb dM_others_255 (lv_at hl 4 rfl) ?_
  refine lv_bipush (pc := 257) (v := 20) hx hb dM_others_257 (by decide) ?_
  refine lv_ishl (pc := 259) hx hb dM_others_259 ?_
  refine lv_ior (pc := 260) hx hb dM_others_260 ?_
  obtain ⟨r1, σ2, hr1, hM⟩ := cl_some hM
  refine x_callMv (pc := 261) C hW (kM_word l D dA h  ((((19 : Int32) ||| (x3 <<< ((7 : Int32) &&& 31))) ||| (x3 <<< ((15 : Int32) &&& 31))) ||| (x6 <<< ((20 : Int32) &&& 31))) _ hr1) gM_word_579 ⟨rfl, by decide, by decide, by decide +kernel⟩ ⟨rfl, rfl⟩ ⟨by decide, by decide⟩ ⟨by decide, by decide⟩ (As := [.int ((((19 : Int32) ||| (x3 <<< ((7 : Int32) &&& 31))) ||| (x3 <<< ((15 : Int32) &&& 31))) ||| (x6 <<< ((20 : Int32) &&& 31)))]) (n := 1) rfl hl.1 rfl (Nat.le_of_ble_eq_true rfl) dM_others_261 (fun H locs hW => ?_)
  exact bM_others_264 N  C  _ _ _ _ hM _ _ hW _ (lv_sub hl [0, 1, 2, 3] rfl)
def M_others_237 (N : Nat) (x1 : Int32) (x3 : Int32) (x4 : Int32) (x6 : Int32) (σ : MS) : Option (Int32 × MS) :=
  (if x6 = 0 then M_others_264 N  x1 x3 x4 σ else M_others_242 N  x1 x3 x4 x6 σ)
set_option maxHeartbeats 4000000 in
set_option maxRecDepth 100000 in
theorem bM_others_237 (N : Nat)  {r : Int32} {σ' : MS} (C : CxM p s m args meth c cM_others 7 none D dA A) (x1 : Int32) (x3 : Int32) (x4 : Int32) (x6 : Int32) (σ : MS) (hM : M_others_237 N  x1 x3 x4 x6 σ = some (r, σ')) (H : Heap) (locs : List Loc) (hW : WdM D dA h A s σ H locs) (ls : Array Slot) (hl : lv_has ls 7 [(0, .ref (h 0)), (1, .int x1), (3, .int x3), (4, .int x4), (6, .int x6)]) : W p l e rm_others s m args below meth c H locs 0 0 (MQ below (QM D dA h A σ' none) args s 0 0 A) (F0 m 237 ls []) := by
  have hx := C.1.1
  have hb := C.1.2.1
  have hown := C.1.2.2.2.2.1
  have hT := C.1.2.2.2.2.2.1
  unfold M_others_237 at hM
  refine lv_iload (pc := 237) hx hb dM_others_237 (lv_at hl 4 rfl) ?_
  refine lv_if_eq (pc := 239) (tgt := 264) hx hb dM_others_239 (by decide) (fun hc => ?_) (fun hc => ?_)
  · replace hM := it_t hc hM
    exact bM_others_264 N  C  _ _ _ _ hM _ _ hW _ (lv_sub hl [0, 1, 2, 3] rfl)
  · replace hM := it_f hc hM
    exact bM_others_242 N  C  _ _ _ _ _ hM _ _ hW _ (lv_sub hl [0, 1, 2, 3, 4] rfl)
def M_others_215 (N : Nat) (x1 : Int32) (x3 : Int32) (x4 : Int32) (x6 : Int32) (σ : MS) : Option (Int32 × MS) :=
  (if x1 = (38 : Int32) then M_others_242 N  x1 x3 x4 x6 σ else (if x4 < (-2048 : Int32) then M_others_237 N  x1 x3 x4 x6 σ else (if x4 ≤ (2047 : Int32) then M_others_264 N  x1 x3 x4 σ else M_others_237 N  x1 x3 x4 x6 σ)))
set_option maxHeartbeats 4000000 in
set_option maxRecDepth 100000 in
theorem bM_others_215 (N : Nat)  {r : Int32} {σ' : MS} (C : CxM p s m args meth c cM_others 7 none D dA A) (x1 : Int32) (x3 : Int32) (x4 : Int32) (x6 : Int32) (σ : MS) (hM : M_others_215 N  x1 x3 x4 x6 σ = some (r, σ')) (H : Heap) (locs : List Loc) (hW : WdM D dA h A s σ H locs) (ls : Array Slot) (hl : lv_has ls 7 [(0, .ref (h 0)), (1, .int x1), (3, .int x3), (4, .int x4), (6, .int x6)]) : W p l e rm_others s m args below meth c H locs 0 0 (MQ below (QM D dA h A σ' none) args s 0 0 A) (F0 m 215 ls []) := by
  have hx := C.1.1
  have hb := C.1.2.1
  have hown := C.1.2.2.2.2.1
  have hT := C.1.2.2.2.2.2.1
  unfold M_others_215 at hM
  refine lv_iload_n (pc := 215) hx hb dM_others_215 rfl (lv_at hl 1 rfl) ?_
  refine lv_bipush (pc := 216) (v := 38) hx hb dM_others_216 (by decide) ?_
  refine lv_icmp_eq (pc := 218) (tgt := 242) hx hb dM_others_218 (by decide) (fun hc => ?_) (fun hc => ?_)
  · replace hM := it_t hc hM
    exact bM_others_242 N  C  _ _ _ _ _ hM _ _ hW _ (lv_sub hl [0, 1, 2, 3, 4] rfl)
  · replace hM := it_f hc hM
    refine lv_iload (pc := 221) hx hb dM_others_221 (lv_at hl 3 rfl) ?_
    refine lv_sipush (pc := 223) (v := -2048) hx hb dM_others_223 (by decide) ?_
    refine lv_icmp_lt (pc := 226) (tgt := 237) hx hb dM_others_226 (by decide) (fun hc => ?_) (fun hc => ?_)
    · replace hM := it_t hc hM
      exact bM_others_237 N  C  _ _ _ _ _ hM _ _ hW _ (lv_sub hl [0, 1, 2, 3, 4] rfl)
    · replace hM := it_f hc hM
      refine lv_iload (pc := 229) hx hb dM_others_229 (lv_at hl 3 rfl) ?_
      refine lv_sipush (pc := 231) (v := 2047) hx hb dM_others_231 (by decide) ?_
      refine lv_icmp_le (pc := 234) (tgt := 264) hx hb dM_others_234 (by decide) (fun hc => ?_) (fun hc => ?_)
      · replace hM := it_t hc hM
        exact bM_others_264 N  C  _ _ _ _ hM _ _ hW _ (lv_sub hl [0, 1, 2, 3] rfl)
      · replace hM := it_f hc hM
        exact bM_others_237 N  C  _ _ _ _ _ hM _ _ hW _ (lv_sub hl [0, 1, 2, 3, 4] rfl)
def M_others_198 (N : Nat) (x1 : Int32) (x3 : Int32) (x4 : Int32) (x5 : Int32) (x6 : Int32) (σ : MS) : Option (Int32 × MS) :=
  cl (M_word  (((55 : Int32) ||| (x3 <<< ((7 : Int32) &&& 31))) ||| (x5 <<< ((12 : Int32) &&& 31))) σ) (fun r1 σ2 => M_others_215 N  x1 x3 x4 x6 σ2)
set_option maxHeartbeats 4000000 in
set_option maxRecDepth 100000 in
theorem bM_others_198 (N : Nat)  {r : Int32} {σ' : MS} (C : CxM p s m args meth c cM_others 7 none D dA A) (x1 : Int32) (x3 : Int32) (x4 : Int32) (x5 : Int32) (x6 : Int32) (σ : MS) (hM : M_others_198 N  x1 x3 x4 x5 x6 σ = some (r, σ')) (H : Heap) (locs : List Loc) (hW : WdM D dA h A s σ H locs) (ls : Array Slot) (hl : lv_has ls 7 [(0, .ref (h 0)), (1, .int x1), (3, .int x3), (4, .int x4), (5, .int x5), (6, .int x6)]) : W p l e rm_others s m args below meth c H locs 0 0 (MQ below (QM D dA h A σ' none) args s 0 0 A) (F0 m 198 ls []) := by
  have hx := C.1.1
  have hb := C.1.2.1
  have hown := C.1.2.2.2.2.1
  have hT := C.1.2.2.2.2.2.1
  unfold M_others_198 at hM
  refine lv_aload_n (pc := 198) hx hb dM_others_198 rfl (lv_at hl 0 rfl) ?_
  refine lv_bipush (pc := 199) (v := 55) hx hb dM_others_199 (by decide) ?_
  refine lv_iload_n (pc := 201) hx hb dM_others_201 rfl (lv_at hl 2 rfl) ?_
  refine lv_bipush (pc := 202) (v := 7) hx hb dM_others_202 (by decide) ?_
  refine lv_ishl (pc := 204) hx hb dM_others_204 ?_
  refine lv_ior (pc := 205) hx hb dM_others_205 ?_
  refine lv_iload (pc := 206) hx hb dM_others_206 (lv_at hl 4 rfl) ?_
  refine lv_bipush (pc := 208) (v := 12) hx hb dM_others_208 (by decide) ?_
  refine lv_ishl (pc := 210) hx hb dM_others_210 ?_
  refine lv_ior (pc := 211) hx hb dM_others_211 ?_
  obtain ⟨r1, σ2, hr1, hM⟩ := cl_some hM
  refine x_callMv (pc := 212) C hW (kM_word l D dA h  (((55 : Int32) ||| (x3 <<< ((7 : Int32) &&& 31))) ||| (x5 <<< ((12 : Int32) &&& 31))) _ hr1) gM_word_579 ⟨rfl, by decide, by decide, by decide +kernel⟩ ⟨rfl, rfl⟩ ⟨by decide, by decide⟩ ⟨by decide, by decide⟩ (As := [.int (((55 : Int32) ||| (x3 <<< ((7 : Int32) &&& 31))) ||| (x5 <<< ((12 : Int32) &&& 31)))]) (n := 1) rfl hl.1 rfl (Nat.le_of_ble_eq_true rfl) dM_others_212 (fun H locs hW => ?_)
  exact bM_others_215 N  C  _ _ _ _ _ hM _ _ hW _ (lv_sub hl [0, 1, 2, 3, 5] rfl)
def M_others_182 (N : Nat) (x1 : Int32) (x3 : Int32) (x4 : Int32) (x5 : Int32) (x6 : Int32) (σ : MS) : Option (Int32 × MS) :=
  (if x4 < (-2048 : Int32) then M_others_198 N  x1 x3 x4 x5 x6 σ else (if x4 ≤ (2047 : Int32) then M_others_215 N  x1 x3 x4 x6 σ else M_others_198 N  x1 x3 x4 x5 x6 σ))
set_option maxHeartbeats 4000000 in
set_option maxRecDepth 100000 in
theorem bM_others_182 (N : Nat)  {r : Int32} {σ' : MS} (C : CxM p s m args meth c cM_others 7 none D dA A) (x1 : Int32) (x3 : Int32) (x4 : Int32) (x5 : Int32) (x6 : Int32) (σ : MS) (hM : M_others_182 N  x1 x3 x4 x5 x6 σ = some (r, σ')) (H : Heap) (locs : List Loc) (hW : WdM D dA h A s σ H locs) (ls : Array Slot) (hl : lv_has ls 7 [(0, .ref (h 0)), (1, .int x1), (3, .int x3), (4, .int x4), (5, .int x5), (6, .int x6)]) : W p l e rm_others s m args below meth c H locs 0 0 (MQ below (QM D dA h A σ' none) args s 0 0 A) (F0 m 182 ls []) := by
  have hx := C.1.1
  have hb := C.1.2.1
  have hown := C.1.2.2.2.2.1
  have hT := C.1.2.2.2.2.2.1
  unfold M_others_182 at hM
  refine lv_iload (pc := 182) hx hb dM_others_182 (lv_at hl 3 rfl) ?_
  refine lv_sipush (pc := 184) (v := -2048) hx hb dM_others_184 (by decide) ?_
  refine lv_icmp_lt (pc := 187) (tgt := 198) hx hb dM_others_187 (by decide) (fun hc => ?_) (fun hc => ?_)
  · replace hM := it_t hc hM
    exact bM_others_198 N  C  _ _ _ _ _ _ hM _ _ hW _ (lv_sub hl [0, 1, 2, 3, 4, 5] rfl)
  · replace hM := it_f hc hM
    refine lv_iload (pc := 190) hx hb dM_others_190 (lv_at hl 3 rfl) ?_
    refine lv_sipush (pc := 192) (v := 2047) hx hb dM_others_192 (by decide) ?_
    refine lv_icmp_le (pc := 195) (tgt := 215) hx hb dM_others_195 (by decide) (fun hc => ?_) (fun hc => ?_)
    · replace hM := it_t hc hM
      exact bM_others_215 N  C  _ _ _ _ _ hM _ _ hW _ (lv_sub hl [0, 1, 2, 3, 5] rfl)
    · replace hM := it_f hc hM
      exact bM_others_198 N  C  _ _ _ _ _ _ hM _ _ hW _ (lv_sub hl [0, 1, 2, 3, 4, 5] rfl)
def M_others_94 (N : Nat) (x1 : Int32) (x3 : Int32) (t0 : Int32) (σ : MS) : Option (Int32 × MS) :=
  bnd ((t0 <<< ((20 : Int32) &&& 31)) >>> ((20 : Int32) &&& 31)) (fun y1 => (if x1 = (38 : Int32) then cl (M_word  (((23 : Int32) ||| (x3 <<< ((7 : Int32) &&& 31))) ||| ((jush (t0 + (2048 : Int32)) (12 : Int32)) <<< ((12 : Int32) &&& 31))) σ) (fun r5 σ6 => M_others_215 N  x1 x3 t0 y1 σ6) else (if t0 ≤ (-33 : Int32) then M_others_182 N  x1 x3 t0 (jush (t0 + (2048 : Int32)) (12 : Int32)) y1 σ else (if (32 : Int32) ≤ t0 then M_others_182 N  x1 x3 t0 (jush (t0 + (2048 : Int32)) (12 : Int32)) y1 σ else (if x3 = 0 then M_others_182 N  x1 x3 t0 (jush (t0 + (2048 : Int32)) (12 : Int32)) y1 σ else cr (M_six  t0) (fun r2 => cl (M_half  (((16385 : Int32) ||| (x3 <<< ((7 : Int32) &&& 31))) ||| r2) σ) (fun r3 σ4 => M_others_215 N  x1 x3 t0 y1 σ4)))))))
set_option maxHeartbeats 4000000 in
set_option maxRecDepth 100000 in
theorem bM_others_94 (N : Nat)  {r : Int32} {σ' : MS} (C : CxM p s m args meth c cM_others 7 none D dA A) (x1 : Int32) (x3 : Int32) (t0 : Int32) (σ : MS) (hM : M_others_94 N  x1 x3 t0 σ = some (r, σ')) (H : Heap) (locs : List Loc) (hW : WdM D dA h A s σ H locs) (ls : Array Slot) (hl : lv_has ls 7 [(0, .ref (h 0)), (1, .int x1), (3, .int x3)]) : W p l e rm_others s m args below meth c H locs 0 0 (MQ below (QM D dA h A σ' none) args s 0 0 A) (F0 m 94 ls [.int t0]) := by
  have hx := C.1.1
  have hb := C.1.2.1
  have hown := C.1.2.2.2.2.1
  have hT := C.1.2.2.2.2.2.1
  unfold M_others_94 at hM
  refine lv_istore (pc := 94) (lv' := [(4, .int t0), (0, .ref (h 0)), (1, .int x1), (3, .int x3)]) hx hb dM_others_94 hl (by decide) rfl (fun ls hl => ?_)
  refine lv_iload (pc := 96) hx hb dM_others_96 (lv_at hl 0 rfl) ?_
  refine lv_sipush (pc := 98) (v := 2048) hx hb dM_others_98 (by decide) ?_
  refine lv_iadd (pc := 101) hx hb dM_others_101 ?_
  refine lv_bipush (pc := 102) (v := 12) hx hb dM_others_102 (by decide) ?_
  refine lv_iushr (pc := 104) (v := jush (t0 + (2048 : Int32)) (12 : Int32)) hx hb dM_others_104 rfl ?_
  refine lv_istore (pc := 105) (lv' := [(5, .int (jush (t0 + (2048 : Int32)) (12 : Int32))), (4, .int t0), (0, .ref (h 0)), (1, .int x1), (3, .int x3)]) hx hb dM_others_105 hl (by decide) rfl (fun ls hl => ?_)
  refine lv_iload (pc := 107) hx hb dM_others_107 (lv_at hl 1 rfl) ?_
  refine lv_bipush (pc := 109) (v := 20) hx hb dM_others_109 (by decide) ?_
  refine lv_ishl (pc := 111) hx hb dM_others_111 ?_
  refine lv_bipush (pc := 112) (v := 20) hx hb dM_others_112 (by decide) ?_
  refine lv_ishr (pc := 114) hx hb dM_others_114 ?_
  obtain ⟨y1, ey1, hM⟩ := bnd_some hM
  refine x_seti ey1 ?_
  refine lv_istore (pc := 115) (lv' := [(6, .int y1), (5, .int (jush (t0 + (2048 : Int32)) (12 : Int32))), (4, .int t0), (0, .ref (h 0)), (1, .int x1), (3, .int x3)]) hx hb dM_others_115 hl (by decide) rfl (fun ls hl => ?_)
  refine lv_iload_n (pc := 117) hx hb dM_others_117 rfl (lv_at hl 4 rfl) ?_
  refine lv_bipush (pc := 118) (v := 38) hx hb dM_others_118 (by decide) ?_
  refine lv_icmp_ne (pc := 120) (tgt := 143) hx hb dM_others_120 (by decide) (fun hc => ?_) (fun hc => ?_)
  · replace hM := it_f hc hM
    refine lv_iload (pc := 143) hx hb dM_others_143 (lv_at hl 2 rfl) ?_
    refine lv_bipush (pc := 145) (v := -33) hx hb dM_others_145 (by decide) ?_
    refine lv_icmp_le (pc := 147) (tgt := 182) hx hb dM_others_147 (by decide) (fun hc => ?_) (fun hc => ?_)
    · replace hM := it_t hc hM
      exact bM_others_182 N  C  _ _ _ _ _ _ hM _ _ hW _ (lv_sub hl [3, 4, 5, 2, 1, 0] rfl)
    · replace hM := it_f hc hM
      refine lv_iload (pc := 150) hx hb dM_others_150 (lv_at hl 2 rfl) ?_
      refine lv_bipush (pc := 152) (v := 32) hx hb dM_others_152 (by decide) ?_
      refine lv_icmp_ge (pc := 154) (tgt := 182) hx hb dM_others_154 (by decide) (fun hc => ?_) (fun hc => ?_)
      · replace hM := it_t hc hM
        exact bM_others_182 N  C  _ _ _ _ _ _ hM _ _ hW _ (lv_sub hl [3, 4, 5, 2, 1, 0] rfl)
      · replace hM := it_f hc hM
        refine lv_iload_n (pc := 157) hx hb dM_others_157 rfl (lv_at hl 5 rfl) ?_
        refine lv_if_eq (pc := 158) (tgt := 182) hx hb dM_others_158 (by decide) (fun hc => ?_) (fun hc => ?_)
        · replace hM := it_t hc hM
          exact bM_others_182 N  C  _ _ _ _ _ _ hM _ _ hW _ (lv_sub hl [3, 4, 5, 2, 1, 0] rfl)
        · replace hM := it_f hc hM
          refine lv_aload_n (pc := 161) hx hb dM_others_161 rfl (lv_at hl 3 rfl) ?_
          refine lv_sipush (pc := 162) (v := 16385) hx hb dM_others_162 (by decide) ?_
          refine lv_iload_n (pc := 165) hx hb dM_others_165 rfl (lv_at hl 5 rfl) ?_
          refine lv_bipush (pc := 166) (v := 7) hx hb dM_others_166 (by decide) ?_
          refine lv_ishl (pc := 168) hx hb dM_others_168 ?_
          refine lv_ior (pc := 169) hx hb dM_others_169 ?_
          refine lv_iload (pc := 170) hx hb dM_others_170 (lv_at hl 2 rfl) ?_
          obtain ⟨r2, hr2, hM⟩ := cr_some hM
          refine x_callSi (pc := 172) C.1 (kM_six l  t0 hr2) gM_six_617 ⟨rfl, by decide, by decide, by decide +kernel⟩ ⟨rfl, rfl⟩ ⟨by decide, by decide⟩ ⟨by decide, by decide⟩ (As := [.int t0]) (n := 1) rfl hl.1 rfl (Nat.le_of_ble_eq_true rfl) dM_others_172 ?_
          refine lv_ior (pc := 175) hx hb dM_others_175 ?_
          obtain ⟨r3, σ4, hr3, hM⟩ := cl_some hM
          refine x_callMv (pc := 176) C hW (kM_half l D dA h  (((16385 : Int32) ||| (x3 <<< ((7 : Int32) &&& 31))) ||| r2) _ hr3) gM_half_556 ⟨rfl, by decide, by decide, by decide +kernel⟩ ⟨rfl, rfl⟩ ⟨by decide, by decide⟩ ⟨by decide, by decide⟩ (As := [.int (((16385 : Int32) ||| (x3 <<< ((7 : Int32) &&& 31))) ||| r2)]) (n := 1) rfl hl.1 rfl (Nat.le_of_ble_eq_true rfl) dM_others_176 (fun H locs hW => ?_)
          refine lv_goto (pc := 179) (tgt := 215) hx hb dM_others_179 (by decide) ?_
          exact bM_others_215 N  C  _ _ _ _ _ hM _ _ hW _ (lv_sub hl [3, 4, 5, 2, 0] rfl)
  · replace hM := it_t hc hM
    refine lv_aload_n (pc := 123) hx hb dM_others_123 rfl (lv_at hl 3 rfl) ?_
    refine lv_bipush (pc := 124) (v := 23) hx hb dM_others_124 (by decide) ?_
    refine lv_iload_n (pc := 126) hx hb dM_others_126 rfl (lv_at hl 5 rfl) ?_
    refine lv_bipush (pc := 127) (v := 7) hx hb dM_others_127 (by decide) ?_
    refine lv_ishl (pc := 129) hx hb dM_others_129 ?_
    refine lv_ior (pc := 130) hx hb dM_others_130 ?_
    refine lv_iload (pc := 131) hx hb dM_others_131 (lv_at hl 1 rfl) ?_
    refine lv_bipush (pc := 133) (v := 12) hx hb dM_others_133 (by decide) ?_
    refine lv_ishl (pc := 135) hx hb dM_others_135 ?_
    refine lv_ior (pc := 136) hx hb dM_others_136 ?_
    obtain ⟨r5, σ6, hr5, hM⟩ := cl_some hM
    refine x_callMv (pc := 137) C hW (kM_word l D dA h  (((23 : Int32) ||| (x3 <<< ((7 : Int32) &&& 31))) ||| ((jush (t0 + (2048 : Int32)) (12 : Int32)) <<< ((12 : Int32) &&& 31))) _ hr5) gM_word_579 ⟨rfl, by decide, by decide, by decide +kernel⟩ ⟨rfl, rfl⟩ ⟨by decide, by decide⟩ ⟨by decide, by decide⟩ (As := [.int (((23 : Int32) ||| (x3 <<< ((7 : Int32) &&& 31))) ||| ((jush (t0 + (2048 : Int32)) (12 : Int32)) <<< ((12 : Int32) &&& 31)))]) (n := 1) rfl hl.1 rfl (Nat.le_of_ble_eq_true rfl) dM_others_137 (fun H locs hW => ?_)
    refine lv_goto (pc := 140) (tgt := 215) hx hb dM_others_140 (by decide) ?_
    exact bM_others_215 N  C  _ _ _ _ _ hM _ _ hW _ (lv_sub hl [3, 4, 5, 2, 0] rfl)
def M_others_60 (N : Nat) (t1 : Int32) (t2 : Int32) (t3 : Int32) (σ : MS) : Option (Int32 × MS) :=
  cl (M_word  (t1 ||| (t2 <<< (t3 &&& 31))) σ) (fun r1 σ2 => some ((0 : Int32), σ2))
set_option maxHeartbeats 4000000 in
set_option maxRecDepth 100000 in
theorem bM_others_60 (N : Nat)  {r : Int32} {σ' : MS} (C : CxM p s m args meth c cM_others 7 none D dA A) (t1 : Int32) (t2 : Int32) (t3 : Int32) (σ : MS) (hM : M_others_60 N  t1 t2 t3 σ = some (r, σ')) (H : Heap) (locs : List Loc) (hW : WdM D dA h A s σ H locs) (ls : Array Slot) (hl : lv_has ls 7 []) : W p l e rm_others s m args below meth c H locs 0 0 (MQ below (QM D dA h A σ' none) args s 0 0 A) (F0 m 60 ls [.int t3, .int t2, .int t1, .ref (h 0)]) := by
  have hx := C.1.1
  have hb := C.1.2.1
  have hown := C.1.2.2.2.2.1
  have hT := C.1.2.2.2.2.2.1
  unfold M_others_60 at hM
  refine lv_ishl (pc := 60) hx hb dM_others_60 ?_
  refine lv_ior (pc := 61) hx hb dM_others_61 ?_
  obtain ⟨r1, σ2, hr1, hM⟩ := cl_some hM
  refine x_callMv (pc := 62) C hW (kM_word l D dA h  (t1 ||| (t2 <<< (t3 &&& 31))) _ hr1) gM_word_579 ⟨rfl, by decide, by decide, by decide +kernel⟩ ⟨rfl, rfl⟩ ⟨by decide, by decide⟩ ⟨by decide, by decide⟩ (As := [.int (t1 ||| (t2 <<< (t3 &&& 31)))]) (n := 1) rfl hl.1 rfl (Nat.le_of_ble_eq_true rfl) dM_others_62 (fun H locs hW => ?_)
  obtain ⟨rfl, rfl⟩ := sm_p hM
  exact x_retMv (pc := 65) C rfl hW dM_others_65
def M_others (N : Nat) (x1 : Int32) (x2 : Int32) (σ : MS) : Option (Int32 × MS) :=
  cl (M_taken N σ) (fun r1 σ2 => (if x1 = (33 : Int32) then cl (M_word  (x2 ||| (r1 <<< ((15 : Int32) &&& 31))) σ2) (fun r11 σ12 => some ((0 : Int32), σ12)) else cl (M_comma N σ2) (fun r3 σ4 => (if r3 = 0 then some ((0 : Int32), σ4) else (if (33 : Int32) ≤ x1 then (if x1 = (39 : Int32) then cl (M_fixed N (-2147483648 : Int32) (2147483647 : Int32) σ4) (fun r7 σ8 => M_others_94 N  x1 r1 r7 σ8) else cl (M_expression N σ4) (fun r5 σ6 => M_others_94 N  x1 r1 (r5 - (σ6.1 19)) σ6)) else cl (M_taken N σ4) (fun r9 σ10 => (if x1 = (31 : Int32) then M_others_60 N  (x2 ||| (r1 <<< ((7 : Int32) &&& 31))) r9 (15 : Int32) σ10 else M_others_60 N  (x2 ||| (r1 <<< ((7 : Int32) &&& 31))) r9 (20 : Int32) σ10)))))))
set_option maxHeartbeats 4000000 in
set_option maxRecDepth 100000 in
theorem bM_others_0 (N : Nat)  {r : Int32} {σ' : MS} (C : CxM p s m args meth c cM_others 7 none D dA A) (x1 : Int32) (x2 : Int32) (σ : MS) (hM : M_others N  x1 x2 σ = some (r, σ')) (H : Heap) (locs : List Loc) (hW : WdM D dA h A s σ H locs) (ls : Array Slot) (hl : lv_has ls 7 [(0, .ref (h 0)), (1, .int x1), (2, .int x2)]) : W p l e rm_others s m args below meth c H locs 0 0 (MQ below (QM D dA h A σ' none) args s 0 0 A) (F0 m 0 ls []) := by
  have hx := C.1.1
  have hb := C.1.2.1
  have hown := C.1.2.2.2.2.1
  have hT := C.1.2.2.2.2.2.1
  unfold M_others at hM
  refine lv_aload_n (pc := 0) hx hb dM_others_0 rfl (lv_at hl 0 rfl) ?_
  obtain ⟨r1, σ2, hr1, hM⟩ := cl_some hM
  refine x_callMi (pc := 1) C hW (kM_taken l D dA h N _ hr1) gM_taken_541 ⟨rfl, by decide, by decide, by decide +kernel⟩ ⟨rfl, rfl⟩ ⟨by decide, by decide⟩ ⟨by decide, by decide⟩ (As := []) (n := 0) rfl hl.1 rfl (Nat.le_of_ble_eq_true rfl) dM_others_1 (fun H locs hW => ?_)
  refine lv_istore_n (pc := 4) (lv' := [(3, .int r1), (0, .ref (h 0)), (1, .int x1), (2, .int x2)]) hx hb dM_others_4 rfl hl (by decide) rfl (fun ls hl => ?_)
  refine lv_iload_n (pc := 5) hx hb dM_others_5 rfl (lv_at hl 2 rfl) ?_
  refine lv_bipush (pc := 6) (v := 33) hx hb dM_others_6 (by decide) ?_
  refine lv_icmp_ne (pc := 8) (tgt := 22) hx hb dM_others_8 (by decide) (fun hc => ?_) (fun hc => ?_)
  · replace hM := it_f hc hM
    refine lv_aload_n (pc := 22) hx hb dM_others_22 rfl (lv_at hl 1 rfl) ?_
    obtain ⟨r3, σ4, hr3, hM⟩ := cl_some hM
    refine x_callMi (pc := 23) C hW (kM_comma l D dA h N _ hr3) gM_comma_591 ⟨rfl, by decide, by decide, by decide +kernel⟩ ⟨rfl, rfl⟩ ⟨by decide, by decide⟩ ⟨by decide, by decide⟩ (As := []) (n := 0) rfl hl.1 rfl (Nat.le_of_ble_eq_true rfl) dM_others_23 (fun H locs hW => ?_)
    refine lv_if_ne (pc := 26) (tgt := 30) hx hb dM_others_26 (by decide) (fun hc => ?_) (fun hc => ?_)
    · replace hM := it_f hc hM
      refine lv_iload_n (pc := 30) hx hb dM_others_30 rfl (lv_at hl 2 rfl) ?_
      refine lv_bipush (pc := 31) (v := 33) hx hb dM_others_31 (by decide) ?_
      refine lv_icmp_ge (pc := 33) (tgt := 66) hx hb dM_others_33 (by decide) (fun hc => ?_) (fun hc => ?_)
      · replace hM := it_t hc hM
        refine lv_iload_n (pc := 66) hx hb dM_others_66 rfl (lv_at hl 2 rfl) ?_
        refine lv_bipush (pc := 67) (v := 39) hx hb dM_others_67 (by decide) ?_
        refine lv_icmp_ne (pc := 69) (tgt := 85) hx hb dM_others_69 (by decide) (fun hc => ?_) (fun hc => ?_)
        · replace hM := it_f hc hM
          refine lv_aload_n (pc := 85) hx hb dM_others_85 rfl (lv_at hl 1 rfl) ?_
          obtain ⟨r5, σ6, hr5, hM⟩ := cl_some hM
          refine x_callMi (pc := 86) C hW (kM_expression l D dA h N _ hr5) gM_expression_534 ⟨rfl, by decide, by decide, by decide +kernel⟩ ⟨rfl, rfl⟩ ⟨by decide, by decide⟩ ⟨by decide, by decide⟩ (As := []) (n := 0) rfl hl.1 rfl (Nat.le_of_ble_eq_true rfl) dM_others_86 (fun H locs hW => ?_)
          refine lv_aload_n (pc := 89) hx hb dM_others_89 rfl (lv_at hl 1 rfl) ?_
          refine gM (pc := 90) C hW 29 (by decide) q_1686 rfl rfl dM_others_90 ?_
          refine lv_isub (pc := 93) hx hb dM_others_93 ?_
          exact bM_others_94 N  C  _ _ _ _ hM _ _ hW _ (lv_sub hl [1, 2, 0] rfl)
        · replace hM := it_t hc hM
          refine lv_aload_n (pc := 72) hx hb dM_others_72 rfl (lv_at hl 1 rfl) ?_
          refine lv_ldcw (pc := 73) (v := -2147483648) hx hb hown (hT _ q_1917) dM_others_73 ?_
          refine lv_ldcw (pc := 76) (v := 2147483647) hx hb hown (hT _ q_1918) dM_others_76 ?_
          obtain ⟨r7, σ8, hr7, hM⟩ := cl_some hM
          refine x_callMi (pc := 79) C hW (kM_fixed l D dA h N (-2147483648 : Int32) (2147483647 : Int32) _ hr7) gM_fixed_614 ⟨rfl, by decide, by decide, by decide +kernel⟩ ⟨rfl, rfl⟩ ⟨by decide, by decide⟩ ⟨by decide, by decide⟩ (As := [.int (-2147483648 : Int32), .int (2147483647 : Int32)]) (n := 2) rfl hl.1 rfl (Nat.le_of_ble_eq_true rfl) dM_others_79 (fun H locs hW => ?_)
          refine lv_goto (pc := 82) (tgt := 94) hx hb dM_others_82 (by decide) ?_
          exact bM_others_94 N  C  _ _ _ _ hM _ _ hW _ (lv_sub hl [1, 2, 0] rfl)
      · replace hM := it_f hc hM
        refine lv_aload_n (pc := 36) hx hb dM_others_36 rfl (lv_at hl 1 rfl) ?_
        refine lv_iload_n (pc := 37) hx hb dM_others_37 rfl (lv_at hl 3 rfl) ?_
        refine lv_iload_n (pc := 38) hx hb dM_others_38 rfl (lv_at hl 0 rfl) ?_
        refine lv_bipush (pc := 39) (v := 7) hx hb dM_others_39 (by decide) ?_
        refine lv_ishl (pc := 41) hx hb dM_others_41 ?_
        refine lv_ior (pc := 42) hx hb dM_others_42 ?_
        refine lv_aload_n (pc := 43) hx hb dM_others_43 rfl (lv_at hl 1 rfl) ?_
        obtain ⟨r9, σ10, hr9, hM⟩ := cl_some hM
        refine x_callMi (pc := 44) C hW (kM_taken l D dA h N _ hr9) gM_taken_541 ⟨rfl, by decide, by decide, by decide +kernel⟩ ⟨rfl, rfl⟩ ⟨by decide, by decide⟩ ⟨by decide, by decide⟩ (As := []) (n := 0) rfl hl.1 rfl (Nat.le_of_ble_eq_true rfl) dM_others_44 (fun H locs hW => ?_)
        refine lv_iload_n (pc := 47) hx hb dM_others_47 rfl (lv_at hl 2 rfl) ?_
        refine lv_bipush (pc := 48) (v := 31) hx hb dM_others_48 (by decide) ?_
        refine lv_icmp_ne (pc := 50) (tgt := 58) hx hb dM_others_50 (by decide) (fun hc => ?_) (fun hc => ?_)
        · replace hM := it_f hc hM
          refine lv_bipush (pc := 58) (v := 20) hx hb dM_others_58 (by decide) ?_
          exact bM_others_60 N  C  _ _ _ _ hM _ _ hW _ (lv_sub hl [] rfl)
        · replace hM := it_t hc hM
          refine lv_bipush (pc := 53) (v := 15) hx hb dM_others_53 (by decide) ?_
          refine lv_goto (pc := 55) (tgt := 60) hx hb dM_others_55 (by decide) ?_
          exact bM_others_60 N  C  _ _ _ _ hM _ _ hW _ (lv_sub hl [] rfl)
    · replace hM := it_t hc hM
      obtain ⟨rfl, rfl⟩ := sm_p hM
      exact x_retMv (pc := 29) C rfl hW dM_others_29
  · replace hM := it_t hc hM
    refine lv_aload_n (pc := 11) hx hb dM_others_11 rfl (lv_at hl 1 rfl) ?_
    refine lv_iload_n (pc := 12) hx hb dM_others_12 rfl (lv_at hl 3 rfl) ?_
    refine lv_iload_n (pc := 13) hx hb dM_others_13 rfl (lv_at hl 0 rfl) ?_
    refine lv_bipush (pc := 14) (v := 15) hx hb dM_others_14 (by decide) ?_
    refine lv_ishl (pc := 16) hx hb dM_others_16 ?_
    refine lv_ior (pc := 17) hx hb dM_others_17 ?_
    obtain ⟨r11, σ12, hr11, hM⟩ := cl_some hM
    refine x_callMv (pc := 18) C hW (kM_word l D dA h  (x2 ||| (r1 <<< ((15 : Int32) &&& 31))) _ hr11) gM_word_579 ⟨rfl, by decide, by decide, by decide +kernel⟩ ⟨rfl, rfl⟩ ⟨by decide, by decide⟩ ⟨by decide, by decide⟩ (As := [.int (x2 ||| (r1 <<< ((15 : Int32) &&& 31)))]) (n := 1) rfl hl.1 rfl (Nat.le_of_ble_eq_true rfl) dM_others_18 (fun H locs hW => ?_)
    obtain ⟨rfl, rfl⟩ := sm_p hM
    exact x_retMv (pc := 21) C rfl hW dM_others_21
theorem kM_others (l : Launch) (D : va_G) (dA : Nat → ClassId) (h : Nat → Nat) (N : Nat) (x1 : Int32) (x2 : Int32) (σ : MS) {r : Int32} {σ' : MS} (hM : M_others N x1 x2 σ = some (r, σ')) : KM l D dA yM_others cM_others 7 none rm_others h σ [.int x1, .int x2] none σ' := x_enterM rfl (Nat.le_of_ble_eq_true rfl) (fun p e s m args below meth c A C hW ls hl => bM_others_0 N C x1 x2 σ hM s.heap [] hW ls hl)
def M_near8_22 (N : Nat) (x1 : Int32) (σ : MS) : Option (Int32 × MS) :=
  some ((x1 - (8 : Int32)) &&& (7 : Int32), σ)
set_option maxHeartbeats 4000000 in
set_option maxRecDepth 100000 in
theorem bM_near8_22 (N : Nat)  {r : Int32} {σ' : MS} (C : CxM p s m args meth c cM_near8 2 (some .int) D dA A) (x1 : Int32) (σ : MS) (hM : M_near8_22 N  x1 σ = some (r, σ')) (H : Heap) (locs : List Loc) (hW : WdM D dA h A s σ H locs) (ls : Array Slot) (hl : lv_has ls 2 [(1, .int x1)]) : W p l e rm_near8 s m args below meth c H locs 0 0 (MQ below (QM D dA h A σ' (some (.int r))) args s 0 0 A) (F0 m 22 ls []) := by
  have hx := C.1.1
  have hb := C.1.2.1
  have hown := C.1.2.2.2.2.1
  have hT := C.1.2.2.2.2.2.1
  unfold M_near8_22 at hM
  refine lv_iload_n (pc := 22) hx hb dM_near8_22 rfl (lv_at hl 0 rfl) ?_
  refine lv_bipush (pc := 23) (v := 8) hx hb dM_near8_23 (by decide) ?_
  refine lv_isub (pc := 25) hx hb dM_near8_25 ?_
  refine lv_bipush (pc := 26) (v := 7) hx hb dM_near8_26 (by decide) ?_
  refine lv_iand (pc := 28) hx hb dM_near8_28 ?_
  obtain ⟨rfl, rfl⟩ := sm_p hM
  exact x_retMi (pc := 29) C rfl hW dM_near8_29
def M_near8_17 (N : Nat) (x1 : Int32) (σ : MS) : Option (Int32 × MS) :=
  cl (M_blame  (3 : Int32) σ) (fun r1 σ2 => M_near8_22 N  x1 σ2)
set_option maxHeartbeats 4000000 in
set_option maxRecDepth 100000 in
theorem bM_near8_17 (N : Nat)  {r : Int32} {σ' : MS} (C : CxM p s m args meth c cM_near8 2 (some .int) D dA A) (x1 : Int32) (σ : MS) (hM : M_near8_17 N  x1 σ = some (r, σ')) (H : Heap) (locs : List Loc) (hW : WdM D dA h A s σ H locs) (ls : Array Slot) (hl : lv_has ls 2 [(0, .ref (h 0)), (1, .int x1)]) : W p l e rm_near8 s m args below meth c H locs 0 0 (MQ below (QM D dA h A σ' (some (.int r))) args s 0 0 A) (F0 m 17 ls []) := by
  have hx := C.1.1
  have hb := C.1.2.1
  have hown := C.1.2.2.2.2.1
  have hT := C.1.2.2.2.2.2.1
  unfold M_near8_17 at hM
  refine lv_aload_n (pc := 17) hx hb dM_near8_17 rfl (lv_at hl 0 rfl) ?_
  refine lv_iconst (pc := 18) (v := 3) hx hb dM_near8_18 (by decide) ?_
  obtain ⟨r1, σ2, hr1, hM⟩ := cl_some hM
  refine x_callMv (pc := 19) C hW (kM_blame l D dA h  (3 : Int32) _ hr1) gM_blame_429 ⟨rfl, by decide, by decide, by decide +kernel⟩ ⟨rfl, rfl⟩ ⟨by decide, by decide⟩ ⟨by decide, by decide⟩ (As := [.int (3 : Int32)]) (n := 1) rfl hl.1 rfl (Nat.le_of_ble_eq_true rfl) dM_near8_19 (fun H locs hW => ?_)
  exact bM_near8_22 N  C  _ _ hM _ _ hW _ (lv_sub hl [1] rfl)
def M_near8 (N : Nat)  (σ : MS) : Option (Int32 × MS) :=
  cl (M_taken N σ) (fun r1 σ2 => (if r1 < (8 : Int32) then M_near8_17 N  r1 σ2 else (if r1 ≤ (15 : Int32) then M_near8_22 N  r1 σ2 else M_near8_17 N  r1 σ2)))
set_option maxHeartbeats 4000000 in
set_option maxRecDepth 100000 in
theorem bM_near8_0 (N : Nat)  {r : Int32} {σ' : MS} (C : CxM p s m args meth c cM_near8 2 (some .int) D dA A)  (σ : MS) (hM : M_near8 N   σ = some (r, σ')) (H : Heap) (locs : List Loc) (hW : WdM D dA h A s σ H locs) (ls : Array Slot) (hl : lv_has ls 2 [(0, .ref (h 0))]) : W p l e rm_near8 s m args below meth c H locs 0 0 (MQ below (QM D dA h A σ' (some (.int r))) args s 0 0 A) (F0 m 0 ls []) := by
  have hx := C.1.1
  have hb := C.1.2.1
  have hown := C.1.2.2.2.2.1
  have hT := C.1.2.2.2.2.2.1
  unfold M_near8 at hM
  refine lv_aload_n (pc := 0) hx hb dM_near8_0 rfl (lv_at hl 0 rfl) ?_
  obtain ⟨r1, σ2, hr1, hM⟩ := cl_some hM
  refine x_callMi (pc := 1) C hW (kM_taken l D dA h N _ hr1) gM_taken_541 ⟨rfl, by decide, by decide, by decide +kernel⟩ ⟨rfl, rfl⟩ ⟨by decide, by decide⟩ ⟨by decide, by decide⟩ (As := []) (n := 0) rfl hl.1 rfl (Nat.le_of_ble_eq_true rfl) dM_near8_1 (fun H locs hW => ?_)
  refine lv_istore_n (pc := 4) (lv' := [(1, .int r1), (0, .ref (h 0))]) hx hb dM_near8_4 rfl hl (by decide) rfl (fun ls hl => ?_)
  refine lv_iload_n (pc := 5) hx hb dM_near8_5 rfl (lv_at hl 0 rfl) ?_
  refine lv_bipush (pc := 6) (v := 8) hx hb dM_near8_6 (by decide) ?_
  refine lv_icmp_lt (pc := 8) (tgt := 17) hx hb dM_near8_8 (by decide) (fun hc => ?_) (fun hc => ?_)
  · replace hM := it_t hc hM
    exact bM_near8_17 N  C  _ _ hM _ _ hW _ (lv_sub hl [1, 0] rfl)
  · replace hM := it_f hc hM
    refine lv_iload_n (pc := 11) hx hb dM_near8_11 rfl (lv_at hl 0 rfl) ?_
    refine lv_bipush (pc := 12) (v := 15) hx hb dM_near8_12 (by decide) ?_
    refine lv_icmp_le (pc := 14) (tgt := 22) hx hb dM_near8_14 (by decide) (fun hc => ?_) (fun hc => ?_)
    · replace hM := it_t hc hM
      exact bM_near8_22 N  C  _ _ hM _ _ hW _ (lv_sub hl [0] rfl)
    · replace hM := it_f hc hM
      exact bM_near8_17 N  C  _ _ hM _ _ hW _ (lv_sub hl [1, 0] rfl)
theorem kM_near8 (l : Launch) (D : va_G) (dA : Nat → ClassId) (h : Nat → Nat) (N : Nat)  (σ : MS) {r : Int32} {σ' : MS} (hM : M_near8 N  σ = some (r, σ')) : KM l D dA yM_near8 cM_near8 2 (some .int) rm_near8 h σ [] (some (.int r)) σ' := x_enterM rfl (Nat.le_of_ble_eq_true rfl) (fun p e s m args below meth c A C hW ls hl => bM_near8_0 N C  σ hM s.heap [] hW ls hl)
def M_not_10 (x1 : Int32) (σ : MS) : Option (Int32 × MS) :=
  some (x1, σ)
set_option maxHeartbeats 4000000 in
set_option maxRecDepth 100000 in
theorem bM_not_10  {r : Int32} {σ' : MS} (C : CxM p s m args meth c cM_not 3 (some .int) D dA A) (x1 : Int32) (σ : MS) (hM : M_not_10  x1 σ = some (r, σ')) (H : Heap) (locs : List Loc) (hW : WdM D dA h A s σ H locs) (ls : Array Slot) (hl : lv_has ls 3 [(1, .int x1)]) : W p l e rm_not s m args below meth c H locs 0 0 (MQ below (QM D dA h A σ' (some (.int r))) args s 0 0 A) (F0 m 10 ls []) := by
  have hx := C.1.1
  have hb := C.1.2.1
  have hown := C.1.2.2.2.2.1
  have hT := C.1.2.2.2.2.2.1
  unfold M_not_10 at hM
  refine lv_iload_n (pc := 10) hx hb dM_not_10 rfl (lv_at hl 0 rfl) ?_
  obtain ⟨rfl, rfl⟩ := sm_p hM
  exact x_retMi (pc := 11) C rfl hW dM_not_11
def M_not (x1 : Int32) (x2 : Int32) (σ : MS) : Option (Int32 × MS) :=
  (if x1 = x2 then cl (M_blame  (3 : Int32) σ) (fun r1 σ2 => M_not_10  x1 σ2) else M_not_10  x1 σ)
set_option maxHeartbeats 4000000 in
set_option maxRecDepth 100000 in
theorem bM_not_0  {r : Int32} {σ' : MS} (C : CxM p s m args meth c cM_not 3 (some .int) D dA A) (x1 : Int32) (x2 : Int32) (σ : MS) (hM : M_not  x1 x2 σ = some (r, σ')) (H : Heap) (locs : List Loc) (hW : WdM D dA h A s σ H locs) (ls : Array Slot) (hl : lv_has ls 3 [(0, .ref (h 0)), (1, .int x1), (2, .int x2)]) : W p l e rm_not s m args below meth c H locs 0 0 (MQ below (QM D dA h A σ' (some (.int r))) args s 0 0 A) (F0 m 0 ls []) := by
  have hx := C.1.1
  have hb := C.1.2.1
  have hown := C.1.2.2.2.2.1
  have hT := C.1.2.2.2.2.2.1
  unfold M_not at hM
  refine lv_iload_n (pc := 0) hx hb dM_not_0 rfl (lv_at hl 1 rfl) ?_
  refine lv_iload_n (pc := 1) hx hb dM_not_1 rfl (lv_at hl 2 rfl) ?_
  refine lv_icmp_ne (pc := 2) (tgt := 10) hx hb dM_not_2 (by decide) (fun hc => ?_) (fun hc => ?_)
  · replace hM := it_f hc hM
    exact bM_not_10  C  _ _ hM _ _ hW _ (lv_sub hl [1] rfl)
  · replace hM := it_t hc hM
    refine lv_aload_n (pc := 5) hx hb dM_not_5 rfl (lv_at hl 0 rfl) ?_
    refine lv_iconst (pc := 6) (v := 3) hx hb dM_not_6 (by decide) ?_
    obtain ⟨r1, σ2, hr1, hM⟩ := cl_some hM
    refine x_callMv (pc := 7) C hW (kM_blame l D dA h  (3 : Int32) _ hr1) gM_blame_429 ⟨rfl, by decide, by decide, by decide +kernel⟩ ⟨rfl, rfl⟩ ⟨by decide, by decide⟩ ⟨by decide, by decide⟩ (As := [.int (3 : Int32)]) (n := 1) rfl hl.1 rfl (Nat.le_of_ble_eq_true rfl) dM_not_7 (fun H locs hW => ?_)
    exact bM_not_10  C  _ _ hM _ _ hW _ (lv_sub hl [1] rfl)
theorem kM_not (l : Launch) (D : va_G) (dA : Nat → ClassId) (h : Nat → Nat) (x1 : Int32) (x2 : Int32) (σ : MS) {r : Int32} {σ' : MS} (hM : M_not x1 x2 σ = some (r, σ')) : KM l D dA yM_not cM_not 3 (some .int) rm_not h σ [.int x1, .int x2] (some (.int r)) σ' := x_enterM rfl (Nat.le_of_ble_eq_true rfl) (fun p e s m args below meth c A C hW ls hl => bM_not_0 C x1 x2 σ hM s.heap [] hW ls hl)
def M_notZero_18  (σ : MS) : Option (Int32 × MS) :=
  some ((0 : Int32), σ)
set_option maxHeartbeats 4000000 in
set_option maxRecDepth 100000 in
theorem bM_notZero_18  {r : Int32} {σ' : MS} (C : CxM p s m args meth c cM_notZero 2 none D dA A)  (σ : MS) (hM : M_notZero_18   σ = some (r, σ')) (H : Heap) (locs : List Loc) (hW : WdM D dA h A s σ H locs) (ls : Array Slot) (hl : lv_has ls 2 []) : W p l e rm_notZero s m args below meth c H locs 0 0 (MQ below (QM D dA h A σ' none) args s 0 0 A) (F0 m 18 ls []) := by
  have hx := C.1.1
  have hb := C.1.2.1
  have hown := C.1.2.2.2.2.1
  have hT := C.1.2.2.2.2.2.1
  unfold M_notZero_18 at hM
  obtain ⟨rfl, rfl⟩ := sm_p hM
  exact x_retMv (pc := 18) C rfl hW dM_notZero_18
def M_notZero (x1 : Int32) (σ : MS) : Option (Int32 × MS) :=
  (if (σ.1 17) = (2 : Int32) then (if x1 = 0 then cl (M_blame  (10 : Int32) σ) (fun r1 σ2 => M_notZero_18  σ2) else M_notZero_18  σ) else M_notZero_18  σ)
set_option maxHeartbeats 4000000 in
set_option maxRecDepth 100000 in
theorem bM_notZero_0  {r : Int32} {σ' : MS} (C : CxM p s m args meth c cM_notZero 2 none D dA A) (x1 : Int32) (σ : MS) (hM : M_notZero  x1 σ = some (r, σ')) (H : Heap) (locs : List Loc) (hW : WdM D dA h A s σ H locs) (ls : Array Slot) (hl : lv_has ls 2 [(0, .ref (h 0)), (1, .int x1)]) : W p l e rm_notZero s m args below meth c H locs 0 0 (MQ below (QM D dA h A σ' none) args s 0 0 A) (F0 m 0 ls []) := by
  have hx := C.1.1
  have hb := C.1.2.1
  have hown := C.1.2.2.2.2.1
  have hT := C.1.2.2.2.2.2.1
  unfold M_notZero at hM
  refine lv_aload_n (pc := 0) hx hb dM_notZero_0 rfl (lv_at hl 0 rfl) ?_
  refine gM (pc := 1) C hW 27 (by decide) q_1684 rfl rfl dM_notZero_1 ?_
  refine lv_iconst (pc := 4) (v := 2) hx hb dM_notZero_4 (by decide) ?_
  refine lv_icmp_ne (pc := 5) (tgt := 18) hx hb dM_notZero_5 (by decide) (fun hc => ?_) (fun hc => ?_)
  · replace hM := it_f hc hM
    exact bM_notZero_18  C   _ hM _ _ hW _ (lv_sub hl [] rfl)
  · replace hM := it_t hc hM
    refine lv_iload_n (pc := 8) hx hb dM_notZero_8 rfl (lv_at hl 1 rfl) ?_
    refine lv_if_ne (pc := 9) (tgt := 18) hx hb dM_notZero_9 (by decide) (fun hc => ?_) (fun hc => ?_)
    · replace hM := it_f hc hM
      exact bM_notZero_18  C   _ hM _ _ hW _ (lv_sub hl [] rfl)
    · replace hM := it_t hc hM
      refine lv_aload_n (pc := 12) hx hb dM_notZero_12 rfl (lv_at hl 0 rfl) ?_
      refine lv_bipush (pc := 13) (v := 10) hx hb dM_notZero_13 (by decide) ?_
      obtain ⟨r1, σ2, hr1, hM⟩ := cl_some hM
      refine x_callMv (pc := 15) C hW (kM_blame l D dA h  (10 : Int32) _ hr1) gM_blame_429 ⟨rfl, by decide, by decide, by decide +kernel⟩ ⟨rfl, rfl⟩ ⟨by decide, by decide⟩ ⟨by decide, by decide⟩ (As := [.int (10 : Int32)]) (n := 1) rfl hl.1 rfl (Nat.le_of_ble_eq_true rfl) dM_notZero_15 (fun H locs hW => ?_)
      exact bM_notZero_18  C   _ hM _ _ hW _ (lv_sub hl [] rfl)
theorem kM_notZero (l : Launch) (D : va_G) (dA : Nat → ClassId) (h : Nat → Nat) (x1 : Int32) (σ : MS) {r : Int32} {σ' : MS} (hM : M_notZero x1 σ = some (r, σ')) : KM l D dA yM_notZero cM_notZero 2 none rm_notZero h σ [.int x1] none σ' := x_enterM rfl (Nat.le_of_ble_eq_true rfl) (fun p e s m args below meth c A C hW ls hl => bM_notZero_0 C x1 σ hM s.heap [] hW ls hl)
def M_plainSix_21 (N : Nat) (x1 : Int32) (x2 : Int32) (x4 : Int32) (σ : MS) : Option (Int32 × MS) :=
  cr (M_six  x4) (fun r1 => cl (M_half  ((x1 ||| (x2 <<< ((7 : Int32) &&& 31))) ||| r1) σ) (fun r2 σ3 => some ((0 : Int32), σ3)))
set_option maxHeartbeats 4000000 in
set_option maxRecDepth 100000 in
theorem bM_plainSix_21 (N : Nat)  {r : Int32} {σ' : MS} (C : CxM p s m args meth c cM_plainSix 5 none D dA A) (x1 : Int32) (x2 : Int32) (x4 : Int32) (σ : MS) (hM : M_plainSix_21 N  x1 x2 x4 σ = some (r, σ')) (H : Heap) (locs : List Loc) (hW : WdM D dA h A s σ H locs) (ls : Array Slot) (hl : lv_has ls 5 [(0, .ref (h 0)), (1, .int x1), (2, .int x2), (4, .int x4)]) : W p l e rm_plainSix s m args below meth c H locs 0 0 (MQ below (QM D dA h A σ' none) args s 0 0 A) (F0 m 21 ls []) := by
  have hx := C.1.1
  have hb := C.1.2.1
  have hown := C.1.2.2.2.2.1
  have hT := C.1.2.2.2.2.2.1
  unfold M_plainSix_21 at hM
  refine lv_aload_n (pc := 21) hx hb dM_plainSix_21 rfl (lv_at hl 0 rfl) ?_
  refine lv_iload_n (pc := 22) hx hb dM_plainSix_22 rfl (lv_at hl 1 rfl) ?_
  refine lv_iload_n (pc := 23) hx hb dM_plainSix_23 rfl (lv_at hl 2 rfl) ?_
  refine lv_bipush (pc := 24) (v := 7) hx hb dM_plainSix_24 (by decide) ?_
  refine lv_ishl (pc := 26) hx hb dM_plainSix_26 ?_
  refine lv_ior (pc := 27) hx hb dM_plainSix_27 ?_
  refine lv_iload (pc := 28) hx hb dM_plainSix_28 (lv_at hl 3 rfl) ?_
  obtain ⟨r1, hr1, hM⟩ := cr_some hM
  refine x_callSi (pc := 30) C.1 (kM_six l  x4 hr1) gM_six_617 ⟨rfl, by decide, by decide, by decide +kernel⟩ ⟨rfl, rfl⟩ ⟨by decide, by decide⟩ ⟨by decide, by decide⟩ (As := [.int x4]) (n := 1) rfl hl.1 rfl (Nat.le_of_ble_eq_true rfl) dM_plainSix_30 ?_
  refine lv_ior (pc := 33) hx hb dM_plainSix_33 ?_
  obtain ⟨r2, σ3, hr2, hM⟩ := cl_some hM
  refine x_callMv (pc := 34) C hW (kM_half l D dA h  ((x1 ||| (x2 <<< ((7 : Int32) &&& 31))) ||| r1) _ hr2) gM_half_556 ⟨rfl, by decide, by decide, by decide +kernel⟩ ⟨rfl, rfl⟩ ⟨by decide, by decide⟩ ⟨by decide, by decide⟩ (As := [.int ((x1 ||| (x2 <<< ((7 : Int32) &&& 31))) ||| r1)]) (n := 1) rfl hl.1 rfl (Nat.le_of_ble_eq_true rfl) dM_plainSix_34 (fun H locs hW => ?_)
  obtain ⟨rfl, rfl⟩ := sm_p hM
  exact x_retMv (pc := 37) C rfl hW dM_plainSix_37
def M_plainSix (N : Nat) (x1 : Int32) (x2 : Int32) (x3 : Int32) (σ : MS) : Option (Int32 × MS) :=
  cl (M_within N (-32 : Int32) (31 : Int32) (1 : Int32) σ) (fun r1 σ2 => (if x3 = 0 then M_plainSix_21 N  x1 x2 r1 σ2 else cl (M_notZero  r1 σ2) (fun r3 σ4 => M_plainSix_21 N  x1 x2 r1 σ4)))
set_option maxHeartbeats 4000000 in
set_option maxRecDepth 100000 in
theorem bM_plainSix_0 (N : Nat)  {r : Int32} {σ' : MS} (C : CxM p s m args meth c cM_plainSix 5 none D dA A) (x1 : Int32) (x2 : Int32) (x3 : Int32) (σ : MS) (hM : M_plainSix N  x1 x2 x3 σ = some (r, σ')) (H : Heap) (locs : List Loc) (hW : WdM D dA h A s σ H locs) (ls : Array Slot) (hl : lv_has ls 5 [(0, .ref (h 0)), (1, .int x1), (2, .int x2), (3, .int x3)]) : W p l e rm_plainSix s m args below meth c H locs 0 0 (MQ below (QM D dA h A σ' none) args s 0 0 A) (F0 m 0 ls []) := by
  have hx := C.1.1
  have hb := C.1.2.1
  have hown := C.1.2.2.2.2.1
  have hT := C.1.2.2.2.2.2.1
  unfold M_plainSix at hM
  refine lv_aload_n (pc := 0) hx hb dM_plainSix_0 rfl (lv_at hl 0 rfl) ?_
  refine lv_bipush (pc := 1) (v := -32) hx hb dM_plainSix_1 (by decide) ?_
  refine lv_bipush (pc := 3) (v := 31) hx hb dM_plainSix_3 (by decide) ?_
  refine lv_iconst (pc := 5) (v := 1) hx hb dM_plainSix_5 (by decide) ?_
  obtain ⟨r1, σ2, hr1, hM⟩ := cl_some hM
  refine x_callMi (pc := 6) C hW (kM_within l D dA h N (-32 : Int32) (31 : Int32) (1 : Int32) _ hr1) gM_within_594 ⟨rfl, by decide, by decide, by decide +kernel⟩ ⟨rfl, rfl⟩ ⟨by decide, by decide⟩ ⟨by decide, by decide⟩ (As := [.int (-32 : Int32), .int (31 : Int32), .int (1 : Int32)]) (n := 3) rfl hl.1 rfl (Nat.le_of_ble_eq_true rfl) dM_plainSix_6 (fun H locs hW => ?_)
  refine lv_istore (pc := 9) (lv' := [(4, .int r1), (0, .ref (h 0)), (1, .int x1), (2, .int x2), (3, .int x3)]) hx hb dM_plainSix_9 hl (by decide) rfl (fun ls hl => ?_)
  refine lv_iload_n (pc := 11) hx hb dM_plainSix_11 rfl (lv_at hl 4 rfl) ?_
  refine lv_if_eq (pc := 12) (tgt := 21) hx hb dM_plainSix_12 (by decide) (fun hc => ?_) (fun hc => ?_)
  · replace hM := it_t hc hM
    exact bM_plainSix_21 N  C  _ _ _ _ hM _ _ hW _ (lv_sub hl [1, 2, 3, 0] rfl)
  · replace hM := it_f hc hM
    refine lv_aload_n (pc := 15) hx hb dM_plainSix_15 rfl (lv_at hl 1 rfl) ?_
    refine lv_iload (pc := 16) hx hb dM_plainSix_16 (lv_at hl 0 rfl) ?_
    obtain ⟨r3, σ4, hr3, hM⟩ := cl_some hM
    refine x_callMv (pc := 18) C hW (kM_notZero l D dA h  r1 _ hr3) gM_notZero_620 ⟨rfl, by decide, by decide, by decide +kernel⟩ ⟨rfl, rfl⟩ ⟨by decide, by decide⟩ ⟨by decide, by decide⟩ (As := [.int r1]) (n := 1) rfl hl.1 rfl (Nat.le_of_ble_eq_true rfl) dM_plainSix_18 (fun H locs hW => ?_)
    exact bM_plainSix_21 N  C  _ _ _ _ hM _ _ hW _ (lv_sub hl [1, 2, 3, 0] rfl)
theorem kM_plainSix (l : Launch) (D : va_G) (dA : Nat → ClassId) (h : Nat → Nat) (N : Nat) (x1 : Int32) (x2 : Int32) (x3 : Int32) (σ : MS) {r : Int32} {σ' : MS} (hM : M_plainSix N x1 x2 x3 σ = some (r, σ')) : KM l D dA yM_plainSix cM_plainSix 5 none rm_plainSix h σ [.int x1, .int x2, .int x3] none σ' := x_enterM rfl (Nat.le_of_ble_eq_true rfl) (fun p e s m args below meth c A C hW ls hl => bM_plainSix_0 N C x1 x2 x3 σ hM s.heap [] hW ls hl)
def M_smalls_306 (N : Nat)  (σ : MS) : Option (Int32 × MS) :=
  some ((0 : Int32), σ)
set_option maxHeartbeats 4000000 in
set_option maxRecDepth 100000 in
theorem bM_smalls_306 (N : Nat)  {r : Int32} {σ' : MS} (C : CxM p s m args meth c cM_smalls 6 none D dA A)  (σ : MS) (hM : M_smalls_306 N   σ = some (r, σ')) (H : Heap) (locs : List Loc) (hW : WdM D dA h A s σ H locs) (ls : Array Slot) (hl : lv_has ls 6 []) : W p l e rm_smalls s m args below meth c H locs 0 0 (MQ below (QM D dA h A σ' none) args s 0 0 A) (F0 m 306 ls []) := by
  have hx := C.1.1
  have hb := C.1.2.1
  have hown := C.1.2.2.2.2.1
  have hT := C.1.2.2.2.2.2.1
  unfold M_smalls_306 at hM
  obtain ⟨rfl, rfl⟩ := sm_p hM
  exact x_retMv (pc := 306) C rfl hW dM_smalls_306
def M_smalls_126 (N : Nat) (x2 : Int32) (x3 : Int32) (x4 : Int32) (x5 : Int32) (σ : MS) : Option (Int32 × MS) :=
  cr (M_bits  x4 (5 : Int32) (3 : Int32) (10 : Int32)) (fun r1 => cr (M_bits  x4 (2 : Int32) (2 : Int32) (6 : Int32)) (fun r2 => cr (M_bits  x4 (6 : Int32) (6 : Int32) (5 : Int32)) (fun r3 => cl (M_half  (((((x2 ||| r1) ||| r2) ||| r3) ||| (x5 <<< ((7 : Int32) &&& 31))) ||| (x3 <<< ((2 : Int32) &&& 31))) σ) (fun r4 σ5 => M_smalls_306 N  σ5))))
set_option maxHeartbeats 4000000 in
set_option maxRecDepth 100000 in
theorem bM_smalls_126 (N : Nat)  {r : Int32} {σ' : MS} (C : CxM p s m args meth c cM_smalls 6 none D dA A) (x2 : Int32) (x3 : Int32) (x4 : Int32) (x5 : Int32) (σ : MS) (hM : M_smalls_126 N  x2 x3 x4 x5 σ = some (r, σ')) (H : Heap) (locs : List Loc) (hW : WdM D dA h A s σ H locs) (ls : Array Slot) (hl : lv_has ls 6 [(0, .ref (h 0)), (2, .int x2), (3, .int x3), (4, .int x4), (5, .int x5)]) : W p l e rm_smalls s m args below meth c H locs 0 0 (MQ below (QM D dA h A σ' none) args s 0 0 A) (F0 m 126 ls []) := by
  have hx := C.1.1
  have hb := C.1.2.1
  have hown := C.1.2.2.2.2.1
  have hT := C.1.2.2.2.2.2.1
  unfold M_smalls_126 at hM
  refine lv_aload_n (pc := 126) hx hb dM_smalls_126 rfl (lv_at hl 0 rfl) ?_
  refine lv_iload_n (pc := 127) hx hb dM_smalls_127 rfl (lv_at hl 1 rfl) ?_
  refine lv_iload (pc := 128) hx hb dM_smalls_128 (lv_at hl 3 rfl) ?_
  refine lv_iconst (pc := 130) (v := 5) hx hb dM_smalls_130 (by decide) ?_
  refine lv_iconst (pc := 131) (v := 3) hx hb dM_smalls_131 (by decide) ?_
  refine lv_bipush (pc := 132) (v := 10) hx hb dM_smalls_132 (by decide) ?_
  obtain ⟨r1, hr1, hM⟩ := cr_some hM
  refine x_callSi (pc := 134) C.1 (kM_bits l  x4 (5 : Int32) (3 : Int32) (10 : Int32) hr1) gM_bits_559 ⟨rfl, by decide, by decide, by decide +kernel⟩ ⟨rfl, rfl⟩ ⟨by decide, by decide⟩ ⟨by decide, by decide⟩ (As := [.int x4, .int (5 : Int32), .int (3 : Int32), .int (10 : Int32)]) (n := 4) rfl hl.1 rfl (Nat.le_of_ble_eq_true rfl) dM_smalls_134 ?_
  refine lv_ior (pc := 137) hx hb dM_smalls_137 ?_
  refine lv_iload (pc := 138) hx hb dM_smalls_138 (lv_at hl 3 rfl) ?_
  refine lv_iconst (pc := 140) (v := 2) hx hb dM_smalls_140 (by decide) ?_
  refine lv_iconst (pc := 141) (v := 2) hx hb dM_smalls_141 (by decide) ?_
  refine lv_bipush (pc := 142) (v := 6) hx hb dM_smalls_142 (by decide) ?_
  obtain ⟨r2, hr2, hM⟩ := cr_some hM
  refine x_callSi (pc := 144) C.1 (kM_bits l  x4 (2 : Int32) (2 : Int32) (6 : Int32) hr2) gM_bits_559 ⟨rfl, by decide, by decide, by decide +kernel⟩ ⟨rfl, rfl⟩ ⟨by decide, by decide⟩ ⟨by decide, by decide⟩ (As := [.int x4, .int (2 : Int32), .int (2 : Int32), .int (6 : Int32)]) (n := 4) rfl hl.1 rfl (Nat.le_of_ble_eq_true rfl) dM_smalls_144 ?_
  refine lv_ior (pc := 147) hx hb dM_smalls_147 ?_
  refine lv_iload (pc := 148) hx hb dM_smalls_148 (lv_at hl 3 rfl) ?_
  refine lv_bipush (pc := 150) (v := 6) hx hb dM_smalls_150 (by decide) ?_
  refine lv_bipush (pc := 152) (v := 6) hx hb dM_smalls_152 (by decide) ?_
  refine lv_iconst (pc := 154) (v := 5) hx hb dM_smalls_154 (by decide) ?_
  obtain ⟨r3, hr3, hM⟩ := cr_some hM
  refine x_callSi (pc := 155) C.1 (kM_bits l  x4 (6 : Int32) (6 : Int32) (5 : Int32) hr3) gM_bits_559 ⟨rfl, by decide, by decide, by decide +kernel⟩ ⟨rfl, rfl⟩ ⟨by decide, by decide⟩ ⟨by decide, by decide⟩ (As := [.int x4, .int (6 : Int32), .int (6 : Int32), .int (5 : Int32)]) (n := 4) rfl hl.1 rfl (Nat.le_of_ble_eq_true rfl) dM_smalls_155 ?_
  refine lv_ior (pc := 158) hx hb dM_smalls_158 ?_
  refine lv_iload (pc := 159) hx hb dM_smalls_159 (lv_at hl 4 rfl) ?_
  refine lv_bipush (pc := 161) (v := 7) hx hb dM_smalls_161 (by decide) ?_
  refine lv_ishl (pc := 163) hx hb dM_smalls_163 ?_
  refine lv_ior (pc := 164) hx hb dM_smalls_164 ?_
  refine lv_iload_n (pc := 165) hx hb dM_smalls_165 rfl (lv_at hl 2 rfl) ?_
  refine lv_iconst (pc := 166) (v := 2) hx hb dM_smalls_166 (by decide) ?_
  refine lv_ishl (pc := 167) hx hb dM_smalls_167 ?_
  refine lv_ior (pc := 168) hx hb dM_smalls_168 ?_
  obtain ⟨r4, σ5, hr4, hM⟩ := cl_some hM
  refine x_callMv (pc := 169) C hW (kM_half l D dA h  (((((x2 ||| r1) ||| r2) ||| r3) ||| (x5 <<< ((7 : Int32) &&& 31))) ||| (x3 <<< ((2 : Int32) &&& 31))) _ hr4) gM_half_556 ⟨rfl, by decide, by decide, by decide +kernel⟩ ⟨rfl, rfl⟩ ⟨by decide, by decide⟩ ⟨by decide, by decide⟩ (As := [.int (((((x2 ||| r1) ||| r2) ||| r3) ||| (x5 <<< ((7 : Int32) &&& 31))) ||| (x3 <<< ((2 : Int32) &&& 31)))]) (n := 1) rfl hl.1 rfl (Nat.le_of_ble_eq_true rfl) dM_smalls_169 (fun H locs hW => ?_)
  refine lv_goto (pc := 172) (tgt := 306) hx hb dM_smalls_172 (by decide) ?_
  exact bM_smalls_306 N  C   _ hM _ _ hW _ (lv_sub hl [] rfl)
def M_smalls_110 (N : Nat) (x2 : Int32) (x3 : Int32) (x4 : Int32) (t0 : Int32) (σ : MS) : Option (Int32 × MS) :=
  (if (σ.1 14) = 0 then cl (M_needs N (41 : Int32) σ) (fun r1 σ2 => M_smalls_126 N  x2 x3 x4 t0 σ2) else M_smalls_126 N  x2 x3 x4 t0 σ)
set_option maxHeartbeats 4000000 in
set_option maxRecDepth 100000 in
theorem bM_smalls_110 (N : Nat)  {r : Int32} {σ' : MS} (C : CxM p s m args meth c cM_smalls 6 none D dA A) (x2 : Int32) (x3 : Int32) (x4 : Int32) (t0 : Int32) (σ : MS) (hM : M_smalls_110 N  x2 x3 x4 t0 σ = some (r, σ')) (H : Heap) (locs : List Loc) (hW : WdM D dA h A s σ H locs) (ls : Array Slot) (hl : lv_has ls 6 [(0, .ref (h 0)), (2, .int x2), (3, .int x3), (4, .int x4)]) : W p l e rm_smalls s m args below meth c H locs 0 0 (MQ below (QM D dA h A σ' none) args s 0 0 A) (F0 m 110 ls [.int t0]) := by
  have hx := C.1.1
  have hb := C.1.2.1
  have hown := C.1.2.2.2.2.1
  have hT := C.1.2.2.2.2.2.1
  unfold M_smalls_110 at hM
  refine lv_istore (pc := 110) (lv' := [(5, .int t0), (0, .ref (h 0)), (2, .int x2), (3, .int x3), (4, .int x4)]) hx hb dM_smalls_110 hl (by decide) rfl (fun ls hl => ?_)
  refine lv_aload_n (pc := 112) hx hb dM_smalls_112 rfl (lv_at hl 1 rfl) ?_
  refine gM (pc := 113) C hW 24 (by decide) q_1681 rfl rfl dM_smalls_113 ?_
  refine lv_if_ne (pc := 116) (tgt := 126) hx hb dM_smalls_116 (by decide) (fun hc => ?_) (fun hc => ?_)
  · replace hM := it_f hc hM
    exact bM_smalls_126 N  C  _ _ _ _ _ hM _ _ hW _ (lv_sub hl [1, 2, 3, 4, 0] rfl)
  · replace hM := it_t hc hM
    refine lv_aload_n (pc := 119) hx hb dM_smalls_119 rfl (lv_at hl 1 rfl) ?_
    refine lv_bipush (pc := 120) (v := 41) hx hb dM_smalls_120 (by decide) ?_
    obtain ⟨r1, σ2, hr1, hM⟩ := cl_some hM
    refine x_callMi (pc := 122) C hW (kM_needs l D dA h N (41 : Int32) _ hr1) gM_needs_515 ⟨rfl, by decide, by decide, by decide +kernel⟩ ⟨rfl, rfl⟩ ⟨by decide, by decide⟩ ⟨by decide, by decide⟩ (As := [.int (41 : Int32)]) (n := 1) rfl hl.1 rfl (Nat.le_of_ble_eq_true rfl) dM_smalls_122 (fun H locs hW => ?_)
    refine lv_pop (pc := 125) hx hb dM_smalls_125 rfl ?_
    exact bM_smalls_126 N  C  _ _ _ _ _ hM _ _ hW _ (lv_sub hl [1, 2, 3, 4, 0] rfl)
def M_smalls_109 (N : Nat) (x2 : Int32) (x3 : Int32) (x4 : Int32) (σ : MS) : Option (Int32 × MS) :=
  M_smalls_110 N  x2 x3 x4 (0 : Int32) σ
set_option maxHeartbeats 4000000 in
set_option maxRecDepth 100000 in
theorem bM_smalls_109 (N : Nat)  {r : Int32} {σ' : MS} (C : CxM p s m args meth c cM_smalls 6 none D dA A) (x2 : Int32) (x3 : Int32) (x4 : Int32) (σ : MS) (hM : M_smalls_109 N  x2 x3 x4 σ = some (r, σ')) (H : Heap) (locs : List Loc) (hW : WdM D dA h A s σ H locs) (ls : Array Slot) (hl : lv_has ls 6 [(0, .ref (h 0)), (2, .int x2), (3, .int x3), (4, .int x4)]) : W p l e rm_smalls s m args below meth c H locs 0 0 (MQ below (QM D dA h A σ' none) args s 0 0 A) (F0 m 109 ls []) := by
  have hx := C.1.1
  have hb := C.1.2.1
  have hown := C.1.2.2.2.2.1
  have hT := C.1.2.2.2.2.2.1
  unfold M_smalls_109 at hM
  refine lv_iconst (pc := 109) (v := 0) hx hb dM_smalls_109 (by decide) ?_
  exact bM_smalls_110 N  C  _ _ _ _ _ hM _ _ hW _ (lv_sub hl [0, 1, 2, 3] rfl)
def M_smalls (N : Nat) (x1 : Int32) (x2 : Int32) (x3 : Int32) (σ : MS) : Option (Int32 × MS) :=
  (if x1 = (13 : Int32) then cl (M_within N (4 : Int32) (1020 : Int32) (4 : Int32) σ) (fun r27 σ28 => cr (M_bits  r27 (5 : Int32) (4 : Int32) (11 : Int32)) (fun r29 => cr (M_bits  r27 (9 : Int32) (6 : Int32) (7 : Int32)) (fun r30 => cr (M_bits  r27 (2 : Int32) (2 : Int32) (6 : Int32)) (fun r31 => cr (M_bits  r27 (3 : Int32) (3 : Int32) (5 : Int32)) (fun r32 => cl (M_half  (((((x2 ||| r29) ||| r30) ||| r31) ||| r32) ||| (x3 <<< ((2 : Int32) &&& 31))) σ28) (fun r33 σ34 => M_smalls_306 N  σ34)))))) else (if (16 : Int32) ≤ x1 then (if x1 = (21 : Int32) then cl (M_within N (0 : Int32) (31 : Int32) (1 : Int32) σ) (fun r17 σ18 => cl (M_half  ((x2 ||| (x3 <<< ((7 : Int32) &&& 31))) ||| ((r17 &&& (31 : Int32)) <<< ((2 : Int32) &&& 31))) σ18) (fun r19 σ20 => M_smalls_306 N  σ20)) else (if x1 = (22 : Int32) then cl (M_within N (-32 : Int32) (31 : Int32) (1 : Int32) σ) (fun r12 σ13 => cr (M_six  r12) (fun r14 => cl (M_half  ((x2 ||| (x3 <<< ((7 : Int32) &&& 31))) ||| r14) σ13) (fun r15 σ16 => M_smalls_306 N  σ16))) else (if x1 = (23 : Int32) then cl (M_near8 N σ) (fun r8 σ9 => cl (M_half  ((x2 ||| (x3 <<< ((7 : Int32) &&& 31))) ||| (r8 <<< ((2 : Int32) &&& 31))) σ9) (fun r10 σ11 => M_smalls_306 N  σ11)) else cl (M_expression N σ) (fun r1 σ2 => cl (M_fits  (r1 - (σ2.1 19)) (-256 : Int32) (254 : Int32) (2 : Int32) σ2) (fun r3 σ4 => cr (M_shortBranch  (r1 - (σ2.1 19))) (fun r5 => cl (M_half  ((x2 ||| (x3 <<< ((7 : Int32) &&& 31))) ||| r5) σ4) (fun r6 σ7 => M_smalls_306 N  σ7))))))) else cl (M_within N (0 : Int32) (124 : Int32) (4 : Int32) σ) (fun r21 σ22 => (if (σ22.1 14) = 0 then cl (M_needs N (40 : Int32) σ22) (fun r23 σ24 => (if r23 = 0 then M_smalls_109 N  x2 x3 r21 σ24 else cl (M_near8 N σ24) (fun r25 σ26 => M_smalls_110 N  x2 x3 r21 r25 σ26))) else M_smalls_109 N  x2 x3 r21 σ22))))
set_option maxHeartbeats 4000000 in
set_option maxRecDepth 100000 in
theorem bM_smalls_0 (N : Nat)  {r : Int32} {σ' : MS} (C : CxM p s m args meth c cM_smalls 6 none D dA A) (x1 : Int32) (x2 : Int32) (x3 : Int32) (σ : MS) (hM : M_smalls N  x1 x2 x3 σ = some (r, σ')) (H : Heap) (locs : List Loc) (hW : WdM D dA h A s σ H locs) (ls : Array Slot) (hl : lv_has ls 6 [(0, .ref (h 0)), (1, .int x1), (2, .int x2), (3, .int x3)]) : W p l e rm_smalls s m args below meth c H locs 0 0 (MQ below (QM D dA h A σ' none) args s 0 0 A) (F0 m 0 ls []) := by
  have hx := C.1.1
  have hb := C.1.2.1
  have hown := C.1.2.2.2.2.1
  have hT := C.1.2.2.2.2.2.1
  unfold M_smalls at hM
  refine lv_iload_n (pc := 0) hx hb dM_smalls_0 rfl (lv_at hl 1 rfl) ?_
  refine lv_bipush (pc := 1) (v := 13) hx hb dM_smalls_1 (by decide) ?_
  refine lv_icmp_ne (pc := 3) (tgt := 70) hx hb dM_smalls_3 (by decide) (fun hc => ?_) (fun hc => ?_)
  · replace hM := it_f hc hM
    refine lv_iload_n (pc := 70) hx hb dM_smalls_70 rfl (lv_at hl 1 rfl) ?_
    refine lv_bipush (pc := 71) (v := 16) hx hb dM_smalls_71 (by decide) ?_
    refine lv_icmp_ge (pc := 73) (tgt := 175) hx hb dM_smalls_73 (by decide) (fun hc => ?_) (fun hc => ?_)
    · replace hM := it_t hc hM
      refine lv_iload_n (pc := 175) hx hb dM_smalls_175 rfl (lv_at hl 1 rfl) ?_
      refine lv_bipush (pc := 176) (v := 21) hx hb dM_smalls_176 (by decide) ?_
      refine lv_icmp_ne (pc := 178) (tgt := 208) hx hb dM_smalls_178 (by decide) (fun hc => ?_) (fun hc => ?_)
      · replace hM := it_f hc hM
        refine lv_iload_n (pc := 208) hx hb dM_smalls_208 rfl (lv_at hl 1 rfl) ?_
        refine lv_bipush (pc := 209) (v := 22) hx hb dM_smalls_209 (by decide) ?_
        refine lv_icmp_ne (pc := 211) (tgt := 240) hx hb dM_smalls_211 (by decide) (fun hc => ?_) (fun hc => ?_)
        · replace hM := it_f hc hM
          refine lv_iload_n (pc := 240) hx hb dM_smalls_240 rfl (lv_at hl 1 rfl) ?_
          refine lv_bipush (pc := 241) (v := 23) hx hb dM_smalls_241 (by decide) ?_
          refine lv_icmp_ne (pc := 243) (tgt := 266) hx hb dM_smalls_243 (by decide) (fun hc => ?_) (fun hc => ?_)
          · replace hM := it_f hc hM
            refine lv_aload_n (pc := 266) hx hb dM_smalls_266 rfl (lv_at hl 0 rfl) ?_
            obtain ⟨r1, σ2, hr1, hM⟩ := cl_some hM
            refine x_callMi (pc := 267) C hW (kM_expression l D dA h N _ hr1) gM_expression_534 ⟨rfl, by decide, by decide, by decide +kernel⟩ ⟨rfl, rfl⟩ ⟨by decide, by decide⟩ ⟨by decide, by decide⟩ (As := []) (n := 0) rfl hl.1 rfl (Nat.le_of_ble_eq_true rfl) dM_smalls_267 (fun H locs hW => ?_)
            refine lv_aload_n (pc := 270) hx hb dM_smalls_270 rfl (lv_at hl 0 rfl) ?_
            refine gM (pc := 271) C hW 29 (by decide) q_1686 rfl rfl dM_smalls_271 ?_
            refine lv_isub (pc := 274) hx hb dM_smalls_274 ?_
            refine lv_istore (pc := 275) (lv' := [(4, .int (r1 - (σ2.1 19))), (0, .ref (h 0)), (1, .int x1), (2, .int x2), (3, .int x3)]) hx hb dM_smalls_275 hl (by decide) rfl (fun ls hl => ?_)
            refine lv_aload_n (pc := 277) hx hb dM_smalls_277 rfl (lv_at hl 1 rfl) ?_
            refine lv_iload (pc := 278) hx hb dM_smalls_278 (lv_at hl 0 rfl) ?_
            refine lv_sipush (pc := 280) (v := -256) hx hb dM_smalls_280 (by decide) ?_
            refine lv_sipush (pc := 283) (v := 254) hx hb dM_smalls_283 (by decide) ?_
            refine lv_iconst (pc := 286) (v := 2) hx hb dM_smalls_286 (by decide) ?_
            obtain ⟨r3, σ4, hr3, hM⟩ := cl_some hM
            refine x_callMv (pc := 287) C hW (kM_fits l D dA h  (r1 - (σ2.1 19)) (-256 : Int32) (254 : Int32) (2 : Int32) _ hr3) gM_fits_537 ⟨rfl, by decide, by decide, by decide +kernel⟩ ⟨rfl, rfl⟩ ⟨by decide, by decide⟩ ⟨by decide, by decide⟩ (As := [.int (r1 - (σ2.1 19)), .int (-256 : Int32), .int (254 : Int32), .int (2 : Int32)]) (n := 4) rfl hl.1 rfl (Nat.le_of_ble_eq_true rfl) dM_smalls_287 (fun H locs hW => ?_)
            refine lv_aload_n (pc := 290) hx hb dM_smalls_290 rfl (lv_at hl 1 rfl) ?_
            refine lv_iload_n (pc := 291) hx hb dM_smalls_291 rfl (lv_at hl 3 rfl) ?_
            refine lv_iload_n (pc := 292) hx hb dM_smalls_292 rfl (lv_at hl 4 rfl) ?_
            refine lv_bipush (pc := 293) (v := 7) hx hb dM_smalls_293 (by decide) ?_
            refine lv_ishl (pc := 295) hx hb dM_smalls_295 ?_
            refine lv_ior (pc := 296) hx hb dM_smalls_296 ?_
            refine lv_iload (pc := 297) hx hb dM_smalls_297 (lv_at hl 0 rfl) ?_
            obtain ⟨r5, hr5, hM⟩ := cr_some hM
            refine x_callSi (pc := 299) C.1 (kM_shortBranch l  (r1 - (σ2.1 19)) hr5) gM_shortBranch_582 ⟨rfl, by decide, by decide, by decide +kernel⟩ ⟨rfl, rfl⟩ ⟨by decide, by decide⟩ ⟨by decide, by decide⟩ (As := [.int (r1 - (σ2.1 19))]) (n := 1) rfl hl.1 rfl (Nat.le_of_ble_eq_true rfl) dM_smalls_299 ?_
            refine lv_ior (pc := 302) hx hb dM_smalls_302 ?_
            obtain ⟨r6, σ7, hr6, hM⟩ := cl_some hM
            refine x_callMv (pc := 303) C hW (kM_half l D dA h  ((x2 ||| (x3 <<< ((7 : Int32) &&& 31))) ||| r5) _ hr6) gM_half_556 ⟨rfl, by decide, by decide, by decide +kernel⟩ ⟨rfl, rfl⟩ ⟨by decide, by decide⟩ ⟨by decide, by decide⟩ (As := [.int ((x2 ||| (x3 <<< ((7 : Int32) &&& 31))) ||| r5)]) (n := 1) rfl hl.1 rfl (Nat.le_of_ble_eq_true rfl) dM_smalls_303 (fun H locs hW => ?_)
            exact bM_smalls_306 N  C   _ hM _ _ hW _ (lv_sub hl [] rfl)
          · replace hM := it_t hc hM
            refine lv_aload_n (pc := 246) hx hb dM_smalls_246 rfl (lv_at hl 0 rfl) ?_
            refine lv_iload_n (pc := 247) hx hb dM_smalls_247 rfl (lv_at hl 2 rfl) ?_
            refine lv_iload_n (pc := 248) hx hb dM_smalls_248 rfl (lv_at hl 3 rfl) ?_
            refine lv_bipush (pc := 249) (v := 7) hx hb dM_smalls_249 (by decide) ?_
            refine lv_ishl (pc := 251) hx hb dM_smalls_251 ?_
            refine lv_ior (pc := 252) hx hb dM_smalls_252 ?_
            refine lv_aload_n (pc := 253) hx hb dM_smalls_253 rfl (lv_at hl 0 rfl) ?_
            obtain ⟨r8, σ9, hr8, hM⟩ := cl_some hM
            refine x_callMi (pc := 254) C hW (kM_near8 l D dA h N _ hr8) gM_near8_623 ⟨rfl, by decide, by decide, by decide +kernel⟩ ⟨rfl, rfl⟩ ⟨by decide, by decide⟩ ⟨by decide, by decide⟩ (As := []) (n := 0) rfl hl.1 rfl (Nat.le_of_ble_eq_true rfl) dM_smalls_254 (fun H locs hW => ?_)
            refine lv_iconst (pc := 257) (v := 2) hx hb dM_smalls_257 (by decide) ?_
            refine lv_ishl (pc := 258) hx hb dM_smalls_258 ?_
            refine lv_ior (pc := 259) hx hb dM_smalls_259 ?_
            obtain ⟨r10, σ11, hr10, hM⟩ := cl_some hM
            refine x_callMv (pc := 260) C hW (kM_half l D dA h  ((x2 ||| (x3 <<< ((7 : Int32) &&& 31))) ||| (r8 <<< ((2 : Int32) &&& 31))) _ hr10) gM_half_556 ⟨rfl, by decide, by decide, by decide +kernel⟩ ⟨rfl, rfl⟩ ⟨by decide, by decide⟩ ⟨by decide, by decide⟩ (As := [.int ((x2 ||| (x3 <<< ((7 : Int32) &&& 31))) ||| (r8 <<< ((2 : Int32) &&& 31)))]) (n := 1) rfl hl.1 rfl (Nat.le_of_ble_eq_true rfl) dM_smalls_260 (fun H locs hW => ?_)
            refine lv_goto (pc := 263) (tgt := 306) hx hb dM_smalls_263 (by decide) ?_
            exact bM_smalls_306 N  C   _ hM _ _ hW _ (lv_sub hl [] rfl)
        · replace hM := it_t hc hM
          refine lv_aload_n (pc := 214) hx hb dM_smalls_214 rfl (lv_at hl 0 rfl) ?_
          refine lv_iload_n (pc := 215) hx hb dM_smalls_215 rfl (lv_at hl 2 rfl) ?_
          refine lv_iload_n (pc := 216) hx hb dM_smalls_216 rfl (lv_at hl 3 rfl) ?_
          refine lv_bipush (pc := 217) (v := 7) hx hb dM_smalls_217 (by decide) ?_
          refine lv_ishl (pc := 219) hx hb dM_smalls_219 ?_
          refine lv_ior (pc := 220) hx hb dM_smalls_220 ?_
          refine lv_aload_n (pc := 221) hx hb dM_smalls_221 rfl (lv_at hl 0 rfl) ?_
          refine lv_bipush (pc := 222) (v := -32) hx hb dM_smalls_222 (by decide) ?_
          refine lv_bipush (pc := 224) (v := 31) hx hb dM_smalls_224 (by decide) ?_
          refine lv_iconst (pc := 226) (v := 1) hx hb dM_smalls_226 (by decide) ?_
          obtain ⟨r12, σ13, hr12, hM⟩ := cl_some hM
          refine x_callMi (pc := 227) C hW (kM_within l D dA h N (-32 : Int32) (31 : Int32) (1 : Int32) _ hr12) gM_within_594 ⟨rfl, by decide, by decide, by decide +kernel⟩ ⟨rfl, rfl⟩ ⟨by decide, by decide⟩ ⟨by decide, by decide⟩ (As := [.int (-32 : Int32), .int (31 : Int32), .int (1 : Int32)]) (n := 3) rfl hl.1 rfl (Nat.le_of_ble_eq_true rfl) dM_smalls_227 (fun H locs hW => ?_)
          obtain ⟨r14, hr14, hM⟩ := cr_some hM
          refine x_callSi (pc := 230) C.1 (kM_six l  r12 hr14) gM_six_617 ⟨rfl, by decide, by decide, by decide +kernel⟩ ⟨rfl, rfl⟩ ⟨by decide, by decide⟩ ⟨by decide, by decide⟩ (As := [.int r12]) (n := 1) rfl hl.1 rfl (Nat.le_of_ble_eq_true rfl) dM_smalls_230 ?_
          refine lv_ior (pc := 233) hx hb dM_smalls_233 ?_
          obtain ⟨r15, σ16, hr15, hM⟩ := cl_some hM
          refine x_callMv (pc := 234) C hW (kM_half l D dA h  ((x2 ||| (x3 <<< ((7 : Int32) &&& 31))) ||| r14) _ hr15) gM_half_556 ⟨rfl, by decide, by decide, by decide +kernel⟩ ⟨rfl, rfl⟩ ⟨by decide, by decide⟩ ⟨by decide, by decide⟩ (As := [.int ((x2 ||| (x3 <<< ((7 : Int32) &&& 31))) ||| r14)]) (n := 1) rfl hl.1 rfl (Nat.le_of_ble_eq_true rfl) dM_smalls_234 (fun H locs hW => ?_)
          refine lv_goto (pc := 237) (tgt := 306) hx hb dM_smalls_237 (by decide) ?_
          exact bM_smalls_306 N  C   _ hM _ _ hW _ (lv_sub hl [] rfl)
      · replace hM := it_t hc hM
        refine lv_aload_n (pc := 181) hx hb dM_smalls_181 rfl (lv_at hl 0 rfl) ?_
        refine lv_iload_n (pc := 182) hx hb dM_smalls_182 rfl (lv_at hl 2 rfl) ?_
        refine lv_iload_n (pc := 183) hx hb dM_smalls_183 rfl (lv_at hl 3 rfl) ?_
        refine lv_bipush (pc := 184) (v := 7) hx hb dM_smalls_184 (by decide) ?_
        refine lv_ishl (pc := 186) hx hb dM_smalls_186 ?_
        refine lv_ior (pc := 187) hx hb dM_smalls_187 ?_
        refine lv_aload_n (pc := 188) hx hb dM_smalls_188 rfl (lv_at hl 0 rfl) ?_
        refine lv_iconst (pc := 189) (v := 0) hx hb dM_smalls_189 (by decide) ?_
        refine lv_bipush (pc := 190) (v := 31) hx hb dM_smalls_190 (by decide) ?_
        refine lv_iconst (pc := 192) (v := 1) hx hb dM_smalls_192 (by decide) ?_
        obtain ⟨r17, σ18, hr17, hM⟩ := cl_some hM
        refine x_callMi (pc := 193) C hW (kM_within l D dA h N (0 : Int32) (31 : Int32) (1 : Int32) _ hr17) gM_within_594 ⟨rfl, by decide, by decide, by decide +kernel⟩ ⟨rfl, rfl⟩ ⟨by decide, by decide⟩ ⟨by decide, by decide⟩ (As := [.int (0 : Int32), .int (31 : Int32), .int (1 : Int32)]) (n := 3) rfl hl.1 rfl (Nat.le_of_ble_eq_true rfl) dM_smalls_193 (fun H locs hW => ?_)
        refine lv_bipush (pc := 196) (v := 31) hx hb dM_smalls_196 (by decide) ?_
        refine lv_iand (pc := 198) hx hb dM_smalls_198 ?_
        refine lv_iconst (pc := 199) (v := 2) hx hb dM_smalls_199 (by decide) ?_
        refine lv_ishl (pc := 200) hx hb dM_smalls_200 ?_
        refine lv_ior (pc := 201) hx hb dM_smalls_201 ?_
        obtain ⟨r19, σ20, hr19, hM⟩ := cl_some hM
        refine x_callMv (pc := 202) C hW (kM_half l D dA h  ((x2 ||| (x3 <<< ((7 : Int32) &&& 31))) ||| ((r17 &&& (31 : Int32)) <<< ((2 : Int32) &&& 31))) _ hr19) gM_half_556 ⟨rfl, by decide, by decide, by decide +kernel⟩ ⟨rfl, rfl⟩ ⟨by decide, by decide⟩ ⟨by decide, by decide⟩ (As := [.int ((x2 ||| (x3 <<< ((7 : Int32) &&& 31))) ||| ((r17 &&& (31 : Int32)) <<< ((2 : Int32) &&& 31)))]) (n := 1) rfl hl.1 rfl (Nat.le_of_ble_eq_true rfl) dM_smalls_202 (fun H locs hW => ?_)
        refine lv_goto (pc := 205) (tgt := 306) hx hb dM_smalls_205 (by decide) ?_
        exact bM_smalls_306 N  C   _ hM _ _ hW _ (lv_sub hl [] rfl)
    · replace hM := it_f hc hM
      refine lv_aload_n (pc := 76) hx hb dM_smalls_76 rfl (lv_at hl 0 rfl) ?_
      refine lv_iconst (pc := 77) (v := 0) hx hb dM_smalls_77 (by decide) ?_
      refine lv_bipush (pc := 78) (v := 124) hx hb dM_smalls_78 (by decide) ?_
      refine lv_iconst (pc := 80) (v := 4) hx hb dM_smalls_80 (by decide) ?_
      obtain ⟨r21, σ22, hr21, hM⟩ := cl_some hM
      refine x_callMi (pc := 81) C hW (kM_within l D dA h N (0 : Int32) (124 : Int32) (4 : Int32) _ hr21) gM_within_594 ⟨rfl, by decide, by decide, by decide +kernel⟩ ⟨rfl, rfl⟩ ⟨by decide, by decide⟩ ⟨by decide, by decide⟩ (As := [.int (0 : Int32), .int (124 : Int32), .int (4 : Int32)]) (n := 3) rfl hl.1 rfl (Nat.le_of_ble_eq_true rfl) dM_smalls_81 (fun H locs hW => ?_)
      refine lv_istore (pc := 84) (lv' := [(4, .int r21), (0, .ref (h 0)), (1, .int x1), (2, .int x2), (3, .int x3)]) hx hb dM_smalls_84 hl (by decide) rfl (fun ls hl => ?_)
      refine lv_aload_n (pc := 86) hx hb dM_smalls_86 rfl (lv_at hl 1 rfl) ?_
      refine gM (pc := 87) C hW 24 (by decide) q_1681 rfl rfl dM_smalls_87 ?_
      refine lv_if_ne (pc := 90) (tgt := 109) hx hb dM_smalls_90 (by decide) (fun hc => ?_) (fun hc => ?_)
      · replace hM := it_f hc hM
        exact bM_smalls_109 N  C  _ _ _ _ hM _ _ hW _ (lv_sub hl [1, 3, 4, 0] rfl)
      · replace hM := it_t hc hM
        refine lv_aload_n (pc := 93) hx hb dM_smalls_93 rfl (lv_at hl 1 rfl) ?_
        refine lv_bipush (pc := 94) (v := 40) hx hb dM_smalls_94 (by decide) ?_
        obtain ⟨r23, σ24, hr23, hM⟩ := cl_some hM
        refine x_callMi (pc := 96) C hW (kM_needs l D dA h N (40 : Int32) _ hr23) gM_needs_515 ⟨rfl, by decide, by decide, by decide +kernel⟩ ⟨rfl, rfl⟩ ⟨by decide, by decide⟩ ⟨by decide, by decide⟩ (As := [.int (40 : Int32)]) (n := 1) rfl hl.1 rfl (Nat.le_of_ble_eq_true rfl) dM_smalls_96 (fun H locs hW => ?_)
        refine lv_if_eq (pc := 99) (tgt := 109) hx hb dM_smalls_99 (by decide) (fun hc => ?_) (fun hc => ?_)
        · replace hM := it_t hc hM
          exact bM_smalls_109 N  C  _ _ _ _ hM _ _ hW _ (lv_sub hl [1, 3, 4, 0] rfl)
        · replace hM := it_f hc hM
          refine lv_aload_n (pc := 102) hx hb dM_smalls_102 rfl (lv_at hl 1 rfl) ?_
          obtain ⟨r25, σ26, hr25, hM⟩ := cl_some hM
          refine x_callMi (pc := 103) C hW (kM_near8 l D dA h N _ hr25) gM_near8_623 ⟨rfl, by decide, by decide, by decide +kernel⟩ ⟨rfl, rfl⟩ ⟨by decide, by decide⟩ ⟨by decide, by decide⟩ (As := []) (n := 0) rfl hl.1 rfl (Nat.le_of_ble_eq_true rfl) dM_smalls_103 (fun H locs hW => ?_)
          refine lv_goto (pc := 106) (tgt := 110) hx hb dM_smalls_106 (by decide) ?_
          exact bM_smalls_110 N  C  _ _ _ _ _ hM _ _ hW _ (lv_sub hl [1, 3, 4, 0] rfl)
  · replace hM := it_t hc hM
    refine lv_aload_n (pc := 6) hx hb dM_smalls_6 rfl (lv_at hl 0 rfl) ?_
    refine lv_iconst (pc := 7) (v := 4) hx hb dM_smalls_7 (by decide) ?_
    refine lv_sipush (pc := 8) (v := 1020) hx hb dM_smalls_8 (by decide) ?_
    refine lv_iconst (pc := 11) (v := 4) hx hb dM_smalls_11 (by decide) ?_
    obtain ⟨r27, σ28, hr27, hM⟩ := cl_some hM
    refine x_callMi (pc := 12) C hW (kM_within l D dA h N (4 : Int32) (1020 : Int32) (4 : Int32) _ hr27) gM_within_594 ⟨rfl, by decide, by decide, by decide +kernel⟩ ⟨rfl, rfl⟩ ⟨by decide, by decide⟩ ⟨by decide, by decide⟩ (As := [.int (4 : Int32), .int (1020 : Int32), .int (4 : Int32)]) (n := 3) rfl hl.1 rfl (Nat.le_of_ble_eq_true rfl) dM_smalls_12 (fun H locs hW => ?_)
    refine lv_istore (pc := 15) (lv' := [(4, .int r27), (0, .ref (h 0)), (1, .int x1), (2, .int x2), (3, .int x3)]) hx hb dM_smalls_15 hl (by decide) rfl (fun ls hl => ?_)
    refine lv_aload_n (pc := 17) hx hb dM_smalls_17 rfl (lv_at hl 1 rfl) ?_
    refine lv_iload_n (pc := 18) hx hb dM_smalls_18 rfl (lv_at hl 3 rfl) ?_
    refine lv_iload (pc := 19) hx hb dM_smalls_19 (lv_at hl 0 rfl) ?_
    refine lv_iconst (pc := 21) (v := 5) hx hb dM_smalls_21 (by decide) ?_
    refine lv_iconst (pc := 22) (v := 4) hx hb dM_smalls_22 (by decide) ?_
    refine lv_bipush (pc := 23) (v := 11) hx hb dM_smalls_23 (by decide) ?_
    obtain ⟨r29, hr29, hM⟩ := cr_some hM
    refine x_callSi (pc := 25) C.1 (kM_bits l  r27 (5 : Int32) (4 : Int32) (11 : Int32) hr29) gM_bits_559 ⟨rfl, by decide, by decide, by decide +kernel⟩ ⟨rfl, rfl⟩ ⟨by decide, by decide⟩ ⟨by decide, by decide⟩ (As := [.int r27, .int (5 : Int32), .int (4 : Int32), .int (11 : Int32)]) (n := 4) rfl hl.1 rfl (Nat.le_of_ble_eq_true rfl) dM_smalls_25 ?_
    refine lv_ior (pc := 28) hx hb dM_smalls_28 ?_
    refine lv_iload (pc := 29) hx hb dM_smalls_29 (lv_at hl 0 rfl) ?_
    refine lv_bipush (pc := 31) (v := 9) hx hb dM_smalls_31 (by decide) ?_
    refine lv_bipush (pc := 33) (v := 6) hx hb dM_smalls_33 (by decide) ?_
    refine lv_bipush (pc := 35) (v := 7) hx hb dM_smalls_35 (by decide) ?_
    obtain ⟨r30, hr30, hM⟩ := cr_some hM
    refine x_callSi (pc := 37) C.1 (kM_bits l  r27 (9 : Int32) (6 : Int32) (7 : Int32) hr30) gM_bits_559 ⟨rfl, by decide, by decide, by decide +kernel⟩ ⟨rfl, rfl⟩ ⟨by decide, by decide⟩ ⟨by decide, by decide⟩ (As := [.int r27, .int (9 : Int32), .int (6 : Int32), .int (7 : Int32)]) (n := 4) rfl hl.1 rfl (Nat.le_of_ble_eq_true rfl) dM_smalls_37 ?_
    refine lv_ior (pc := 40) hx hb dM_smalls_40 ?_
    refine lv_iload (pc := 41) hx hb dM_smalls_41 (lv_at hl 0 rfl) ?_
    refine lv_iconst (pc := 43) (v := 2) hx hb dM_smalls_43 (by decide) ?_
    refine lv_iconst (pc := 44) (v := 2) hx hb dM_smalls_44 (by decide) ?_
    refine lv_bipush (pc := 45) (v := 6) hx hb dM_smalls_45 (by decide) ?_
    obtain ⟨r31, hr31, hM⟩ := cr_some hM
    refine x_callSi (pc := 47) C.1 (kM_bits l  r27 (2 : Int32) (2 : Int32) (6 : Int32) hr31) gM_bits_559 ⟨rfl, by decide, by decide, by decide +kernel⟩ ⟨rfl, rfl⟩ ⟨by decide, by decide⟩ ⟨by decide, by decide⟩ (As := [.int r27, .int (2 : Int32), .int (2 : Int32), .int (6 : Int32)]) (n := 4) rfl hl.1 rfl (Nat.le_of_ble_eq_true rfl) dM_smalls_47 ?_
    refine lv_ior (pc := 50) hx hb dM_smalls_50 ?_
    refine lv_iload (pc := 51) hx hb dM_smalls_51 (lv_at hl 0 rfl) ?_
    refine lv_iconst (pc := 53) (v := 3) hx hb dM_smalls_53 (by decide) ?_
    refine lv_iconst (pc := 54) (v := 3) hx hb dM_smalls_54 (by decide) ?_
    refine lv_iconst (pc := 55) (v := 5) hx hb dM_smalls_55 (by decide) ?_
    obtain ⟨r32, hr32, hM⟩ := cr_some hM
    refine x_callSi (pc := 56) C.1 (kM_bits l  r27 (3 : Int32) (3 : Int32) (5 : Int32) hr32) gM_bits_559 ⟨rfl, by decide, by decide, by decide +kernel⟩ ⟨rfl, rfl⟩ ⟨by decide, by decide⟩ ⟨by decide, by decide⟩ (As := [.int r27, .int (3 : Int32), .int (3 : Int32), .int (5 : Int32)]) (n := 4) rfl hl.1 rfl (Nat.le_of_ble_eq_true rfl) dM_smalls_56 ?_
    refine lv_ior (pc := 59) hx hb dM_smalls_59 ?_
    refine lv_iload_n (pc := 60) hx hb dM_smalls_60 rfl (lv_at hl 4 rfl) ?_
    refine lv_iconst (pc := 61) (v := 2) hx hb dM_smalls_61 (by decide) ?_
    refine lv_ishl (pc := 62) hx hb dM_smalls_62 ?_
    refine lv_ior (pc := 63) hx hb dM_smalls_63 ?_
    obtain ⟨r33, σ34, hr33, hM⟩ := cl_some hM
    refine x_callMv (pc := 64) C hW (kM_half l D dA h  (((((x2 ||| r29) ||| r30) ||| r31) ||| r32) ||| (x3 <<< ((2 : Int32) &&& 31))) _ hr33) gM_half_556 ⟨rfl, by decide, by decide, by decide +kernel⟩ ⟨rfl, rfl⟩ ⟨by decide, by decide⟩ ⟨by decide, by decide⟩ (As := [.int (((((x2 ||| r29) ||| r30) ||| r31) ||| r32) ||| (x3 <<< ((2 : Int32) &&& 31)))]) (n := 1) rfl hl.1 rfl (Nat.le_of_ble_eq_true rfl) dM_smalls_64 (fun H locs hW => ?_)
    refine lv_goto (pc := 67) (tgt := 306) hx hb dM_smalls_67 (by decide) ?_
    exact bM_smalls_306 N  C   _ hM _ _ hW _ (lv_sub hl [] rfl)
theorem kM_smalls (l : Launch) (D : va_G) (dA : Nat → ClassId) (h : Nat → Nat) (N : Nat) (x1 : Int32) (x2 : Int32) (x3 : Int32) (σ : MS) {r : Int32} {σ' : MS} (hM : M_smalls N x1 x2 x3 σ = some (r, σ')) : KM l D dA yM_smalls cM_smalls 6 none rm_smalls h σ [.int x1, .int x2, .int x3] none σ' := x_enterM rfl (Nat.le_of_ble_eq_true rfl) (fun p e s m args below meth c A C hW ls hl => bM_smalls_0 N C x1 x2 x3 σ hM s.heap [] hW ls hl)
end
