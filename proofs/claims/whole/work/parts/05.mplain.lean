theorem q_1806 : (Jvm.Cond.methodLink "LineAssemblerModel" (426 : Nat) ({ cls := "LineAssemblerModel", name := "scan", desc := "()V" } : Jvm.MethodName)) ∈ lw_gd := u_7 (List.mem_of_getElem? (i := 126) (by decide +kernel)) (by decide +kernel)
theorem q_1808 : (Jvm.Cond.instanceMethod ({ cls := "LineAssemblerModel", name := "scan", desc := "()V" } : Jvm.MethodName)) ∈ lw_gd := u_7 (List.mem_of_getElem? (i := 128) (by decide +kernel)) (by decide +kernel)
theorem q_1809 : (Jvm.Cond.code ({ cls := "LineAssemblerModel", name := "scan", desc := "()V" } : Jvm.MethodName) prog_14_method_11_code (3 : Nat) (Option.none : Option Jvm.ClassFile.FieldType)) ∈ lw_gd := u_7 (List.mem_of_getElem? (i := 129) (by decide +kernel)) (by decide +kernel)
theorem q_1817 : (Jvm.Cond.methodLink "LineAssemblerModel" (387 : Nat) ({ cls := "LineAssemblerModel", name := "plain", desc := "(I)I" } : Jvm.MethodName)) ∈ lw_gd := u_7 (List.mem_of_getElem? (i := 137) (by decide +kernel)) (by decide +kernel)
theorem q_1819 : (Jvm.Cond.instanceMethod ({ cls := "LineAssemblerModel", name := "plain", desc := "(I)I" } : Jvm.MethodName)) ∈ lw_gd := u_7 (List.mem_of_getElem? (i := 139) (by decide +kernel)) (by decide +kernel)
theorem q_1820 : (Jvm.Cond.code ({ cls := "LineAssemblerModel", name := "plain", desc := "(I)I" } : Jvm.MethodName) prog_14_method_9_code (3 : Nat) (Option.some Jvm.ClassFile.FieldType.int)) ∈ lw_gd := u_7 (List.mem_of_getElem? (i := 140) (by decide +kernel)) (by decide +kernel)
theorem q_1827 : (Jvm.Cond.methodLink "LineAssemblerModel" (390 : Nat) ({ cls := "LineAssemblerModel", name := "digits", desc := "()V" } : Jvm.MethodName)) ∈ lw_gd := u_7 (List.mem_of_getElem? (i := 147) (by decide +kernel)) (by decide +kernel)
theorem q_1829 : (Jvm.Cond.instanceMethod ({ cls := "LineAssemblerModel", name := "digits", desc := "()V" } : Jvm.MethodName)) ∈ lw_gd := u_7 (List.mem_of_getElem? (i := 149) (by decide +kernel)) (by decide +kernel)
theorem q_1830 : (Jvm.Cond.code ({ cls := "LineAssemblerModel", name := "digits", desc := "()V" } : Jvm.MethodName) prog_14_method_14_code (6 : Nat) (Option.none : Option Jvm.ClassFile.FieldType)) ∈ lw_gd := u_7 (List.mem_of_getElem? (i := 150) (by decide +kernel)) (by decide +kernel)
theorem q_1844 : (Jvm.Cond.methodLink "LineAssemblerModel" (396 : Nat) ({ cls := "LineAssemblerModel", name := "character", desc := "()V" } : Jvm.MethodName)) ∈ lw_gd := u_7 (List.mem_of_getElem? (i := 164) (by decide +kernel)) (by decide +kernel)
theorem q_1846 : (Jvm.Cond.instanceMethod ({ cls := "LineAssemblerModel", name := "character", desc := "()V" } : Jvm.MethodName)) ∈ lw_gd := u_7 (List.mem_of_getElem? (i := 166) (by decide +kernel)) (by decide +kernel)
theorem q_1847 : (Jvm.Cond.code ({ cls := "LineAssemblerModel", name := "character", desc := "()V" } : Jvm.MethodName) prog_14_method_16_code (2 : Nat) (Option.none : Option Jvm.ClassFile.FieldType)) ∈ lw_gd := u_7 (List.mem_of_getElem? (i := 167) (by decide +kernel)) (by decide +kernel)
theorem q_1852 : (Jvm.Cond.methodLink "LineAssemblerModel" (399 : Nat) ({ cls := "LineAssemblerModel", name := "quote", desc := "()V" } : Jvm.MethodName)) ∈ lw_gd := u_7 (List.mem_of_getElem? (i := 172) (by decide +kernel)) (by decide +kernel)
theorem q_1854 : (Jvm.Cond.instanceMethod ({ cls := "LineAssemblerModel", name := "quote", desc := "()V" } : Jvm.MethodName)) ∈ lw_gd := u_7 (List.mem_of_getElem? (i := 174) (by decide +kernel)) (by decide +kernel)
theorem q_1855 : (Jvm.Cond.code ({ cls := "LineAssemblerModel", name := "quote", desc := "()V" } : Jvm.MethodName) prog_14_method_17_code (3 : Nat) (Option.none : Option Jvm.ClassFile.FieldType)) ∈ lw_gd := u_7 (List.mem_of_getElem? (i := 175) (by decide +kernel)) (by decide +kernel)
theorem q_1856 : (Jvm.Cond.methodLink "LineAssemblerModel" (429 : Nat) ({ cls := "LineAssemblerModel", name := "blame", desc := "(I)V" } : Jvm.MethodName)) ∈ lw_gd := u_7 (List.mem_of_getElem? (i := 176) (by decide +kernel)) (by decide +kernel)
theorem q_1858 : (Jvm.Cond.instanceMethod ({ cls := "LineAssemblerModel", name := "blame", desc := "(I)V" } : Jvm.MethodName)) ∈ lw_gd := u_7 (List.mem_of_getElem? (i := 178) (by decide +kernel)) (by decide +kernel)
theorem q_1859 : (Jvm.Cond.code ({ cls := "LineAssemblerModel", name := "blame", desc := "(I)V" } : Jvm.MethodName) prog_14_method_18_code (2 : Nat) (Option.none : Option Jvm.ClassFile.FieldType)) ∈ lw_gd := u_7 (List.mem_of_getElem? (i := 179) (by decide +kernel)) (by decide +kernel)
theorem q_1864 : (Jvm.Cond.methodLink "LineAssemblerModel" (433 : Nat) ({ cls := "LineAssemblerModel", name := "packed", desc := "(II)J" } : Jvm.MethodName)) ∈ lw_gd := u_7 (List.mem_of_getElem? (i := 184) (by decide +kernel)) (by decide +kernel)
theorem q_1866 : (Jvm.Cond.instanceMethod ({ cls := "LineAssemblerModel", name := "packed", desc := "(II)J" } : Jvm.MethodName)) ∈ lw_gd := u_7 (List.mem_of_getElem? (i := 186) (by decide +kernel)) (by decide +kernel)
theorem q_1867 : (Jvm.Cond.code ({ cls := "LineAssemblerModel", name := "packed", desc := "(II)J" } : Jvm.MethodName) prog_14_method_20_code (7 : Nat) (Option.some Jvm.ClassFile.FieldType.long)) ∈ lw_gd := u_7 (List.mem_of_getElem? (i := 187) (by decide +kernel)) (by decide +kernel)
theorem q_1868 : (Jvm.Cond.constantLong "LineAssemblerModel" (437 : Nat) (4006234 : Int64)) ∈ lw_gd := u_7 (List.mem_of_getElem? (i := 188) (by decide +kernel)) (by decide +kernel)
theorem q_1869 : (Jvm.Cond.constantLong "LineAssemblerModel" (439 : Nat) (82 : Int64)) ∈ lw_gd := u_7 (List.mem_of_getElem? (i := 189) (by decide +kernel)) (by decide +kernel)
theorem q_1870 : (Jvm.Cond.constantLong "LineAssemblerModel" (441 : Nat) (1043 : Int64)) ∈ lw_gd := u_7 (List.mem_of_getElem? (i := 190) (by decide +kernel)) (by decide +kernel)
theorem q_1871 : (Jvm.Cond.constantLong "LineAssemblerModel" (443 : Nat) (1031 : Int64)) ∈ lw_gd := u_7 (List.mem_of_getElem? (i := 191) (by decide +kernel)) (by decide +kernel)
theorem q_1872 : (Jvm.Cond.constantLong "LineAssemblerModel" (445 : Nat) (1044 : Int64)) ∈ lw_gd := u_7 (List.mem_of_getElem? (i := 192) (by decide +kernel)) (by decide +kernel)
theorem q_1873 : (Jvm.Cond.constantLong "LineAssemblerModel" (447 : Nat) (1030 : Int64)) ∈ lw_gd := u_7 (List.mem_of_getElem? (i := 193) (by decide +kernel)) (by decide +kernel)
theorem qs_53 : Cond.selects "LineAssemblerModel" (⟨"LineAssemblerModel", "scan", "()V"⟩ : MethodName) ⟨"LineAssemblerModel", "scan", "()V"⟩ ∈ lw_gd := lw_gds (List.mem_of_getElem? (i := 53) (by decide +kernel)) (by decide +kernel)
theorem qs_55 : Cond.selects "LineAssemblerModel" (⟨"LineAssemblerModel", "plain", "(I)I"⟩ : MethodName) ⟨"LineAssemblerModel", "plain", "(I)I"⟩ ∈ lw_gd := lw_gds (List.mem_of_getElem? (i := 55) (by decide +kernel)) (by decide +kernel)
theorem qs_56 : Cond.selects "LineAssemblerModel" (⟨"LineAssemblerModel", "digits", "()V"⟩ : MethodName) ⟨"LineAssemblerModel", "digits", "()V"⟩ ∈ lw_gd := lw_gds (List.mem_of_getElem? (i := 56) (by decide +kernel)) (by decide +kernel)
theorem qs_59 : Cond.selects "LineAssemblerModel" (⟨"LineAssemblerModel", "character", "()V"⟩ : MethodName) ⟨"LineAssemblerModel", "character", "()V"⟩ ∈ lw_gd := lw_gds (List.mem_of_getElem? (i := 59) (by decide +kernel)) (by decide +kernel)
theorem qs_61 : Cond.selects "LineAssemblerModel" (⟨"LineAssemblerModel", "quote", "()V"⟩ : MethodName) ⟨"LineAssemblerModel", "quote", "()V"⟩ ∈ lw_gd := lw_gds (List.mem_of_getElem? (i := 61) (by decide +kernel)) (by decide +kernel)
theorem qs_62 : Cond.selects "LineAssemblerModel" (⟨"LineAssemblerModel", "blame", "(I)V"⟩ : MethodName) ⟨"LineAssemblerModel", "blame", "(I)V"⟩ ∈ lw_gd := lw_gds (List.mem_of_getElem? (i := 62) (by decide +kernel)) (by decide +kernel)
theorem qs_64 : Cond.selects "LineAssemblerModel" (⟨"LineAssemblerModel", "packed", "(II)J"⟩ : MethodName) ⟨"LineAssemblerModel", "packed", "(II)J"⟩ ∈ lw_gd := lw_gds (List.mem_of_getElem? (i := 64) (by decide +kernel)) (by decide +kernel)
abbrev cM_plain : ByteArray := prog_14_method_9_code
def yM_plain : MethodName := ⟨RM, "plain", "(I)I"⟩
abbrev rm_plain : Room := { frames := 2, cells := 0, slots := 0, locals := 40 }
theorem dM_plain_0 : decode cM_plain 0 = .ok (.iload_n 1, 1) := by decide +kernel
theorem dM_plain_1 : decode cM_plain 1 = .ok (.istore_n 2, 1) := by decide +kernel
theorem dM_plain_2 : decode cM_plain 2 = .ok (.aload_n 0, 1) := by decide +kernel
theorem dM_plain_3 : decode cM_plain 3 = .ok (.iload_n 2, 1) := by decide +kernel
theorem dM_plain_4 : decode cM_plain 4 = .ok (.invokevirtual 368, 3) := by decide +kernel
theorem dM_plain_7 : decode cM_plain 7 = .ok (.invokestatic 372, 3) := by decide +kernel
theorem dM_plain_10 : decode cM_plain 10 = .ok (.ifCond .eq (9), 3) := by decide +kernel
theorem dM_plain_13 : decode cM_plain 13 = .ok (.iinc 2 (1), 3) := by decide +kernel
theorem dM_plain_16 : decode cM_plain 16 = .ok (.goto (-14), 3) := by decide +kernel
theorem dM_plain_19 : decode cM_plain 19 = .ok (.iload_n 2, 1) := by decide +kernel
theorem dM_plain_20 : decode cM_plain 20 = .ok (.ireturn, 1) := by decide +kernel
abbrev cM_quote : ByteArray := prog_14_method_17_code
def yM_quote : MethodName := ⟨RM, "quote", "()V"⟩
abbrev rm_quote : Room := { frames := 2, cells := 0, slots := 0, locals := 45 }
theorem dM_quote_0 : decode cM_quote 0 = .ok (.aload_n 0, 1) := by decide +kernel
theorem dM_quote_1 : decode cM_quote 1 = .ok (.iconst 4, 1) := by decide +kernel
theorem dM_quote_2 : decode cM_quote 2 = .ok (.putfield 375, 3) := by decide +kernel
theorem dM_quote_5 : decode cM_quote 5 = .ok (.aload_n 0, 1) := by decide +kernel
theorem dM_quote_6 : decode cM_quote 6 = .ok (.getfield 384, 3) := by decide +kernel
theorem dM_quote_9 : decode cM_quote 9 = .ok (.iconst 1, 1) := by decide +kernel
theorem dM_quote_10 : decode cM_quote 10 = .ok (.iadd, 1) := by decide +kernel
theorem dM_quote_11 : decode cM_quote 11 = .ok (.istore_n 1, 1) := by decide +kernel
theorem dM_quote_12 : decode cM_quote 12 = .ok (.iconst 0, 1) := by decide +kernel
theorem dM_quote_13 : decode cM_quote 13 = .ok (.istore_n 2, 1) := by decide +kernel
theorem dM_quote_14 : decode cM_quote 14 = .ok (.iload_n 2, 1) := by decide +kernel
theorem dM_quote_15 : decode cM_quote 15 = .ok (.ifCond .lt (29), 3) := by decide +kernel
theorem dM_quote_18 : decode cM_quote 18 = .ok (.aload_n 0, 1) := by decide +kernel
theorem dM_quote_19 : decode cM_quote 19 = .ok (.iload_n 1, 1) := by decide +kernel
theorem dM_quote_20 : decode cM_quote 20 = .ok (.invokevirtual 368, 3) := by decide +kernel
theorem dM_quote_23 : decode cM_quote 23 = .ok (.bipush 34, 2) := by decide +kernel
theorem dM_quote_25 : decode cM_quote 25 = .ok (.if_icmp .eq (19), 3) := by decide +kernel
theorem dM_quote_28 : decode cM_quote 28 = .ok (.aload_n 0, 1) := by decide +kernel
theorem dM_quote_29 : decode cM_quote 29 = .ok (.iload_n 1, 1) := by decide +kernel
theorem dM_quote_30 : decode cM_quote 30 = .ok (.bipush 34, 2) := by decide +kernel
theorem dM_quote_32 : decode cM_quote 32 = .ok (.invokevirtual 416, 3) := by decide +kernel
theorem dM_quote_35 : decode cM_quote 35 = .ok (.istore_n 2, 1) := by decide +kernel
theorem dM_quote_36 : decode cM_quote 36 = .ok (.aload_n 0, 1) := by decide +kernel
theorem dM_quote_37 : decode cM_quote 37 = .ok (.getfield 381, 3) := by decide +kernel
theorem dM_quote_40 : decode cM_quote 40 = .ok (.istore_n 1, 1) := by decide +kernel
theorem dM_quote_41 : decode cM_quote 41 = .ok (.goto (-27), 3) := by decide +kernel
theorem dM_quote_44 : decode cM_quote 44 = .ok (.aload_n 0, 1) := by decide +kernel
theorem dM_quote_45 : decode cM_quote 45 = .ok (.iload_n 1, 1) := by decide +kernel
theorem dM_quote_46 : decode cM_quote 46 = .ok (.iconst 1, 1) := by decide +kernel
theorem dM_quote_47 : decode cM_quote 47 = .ok (.iadd, 1) := by decide +kernel
theorem dM_quote_48 : decode cM_quote 48 = .ok (.putfield 381, 3) := by decide +kernel
theorem dM_quote_51 : decode cM_quote 51 = .ok (.iload_n 2, 1) := by decide +kernel
theorem dM_quote_52 : decode cM_quote 52 = .ok (.ifCond .ge (7), 3) := by decide +kernel
theorem dM_quote_55 : decode cM_quote 55 = .ok (.aload_n 0, 1) := by decide +kernel
theorem dM_quote_56 : decode cM_quote 56 = .ok (.invokevirtual 393, 3) := by decide +kernel
theorem dM_quote_59 : decode cM_quote 59 = .ok (.return_, 1) := by decide +kernel
abbrev cM_scan : ByteArray := prog_14_method_11_code
def yM_scan : MethodName := ⟨RM, "scan", "()V"⟩
abbrev rm_scan : Room := { frames := 4, cells := 0, slots := 0, locals := 92 }
theorem dM_scan_0 : decode cM_scan 0 = .ok (.aload_n 0, 1) := by decide +kernel
theorem dM_scan_1 : decode cM_scan 1 = .ok (.aload_n 0, 1) := by decide +kernel
theorem dM_scan_2 : decode cM_scan 2 = .ok (.getfield 384, 3) := by decide +kernel
theorem dM_scan_5 : decode cM_scan 5 = .ok (.invokevirtual 368, 3) := by decide +kernel
theorem dM_scan_8 : decode cM_scan 8 = .ok (.bipush 9, 2) := by decide +kernel
theorem dM_scan_10 : decode cM_scan 10 = .ok (.if_icmp .eq (16), 3) := by decide +kernel
theorem dM_scan_13 : decode cM_scan 13 = .ok (.aload_n 0, 1) := by decide +kernel
theorem dM_scan_14 : decode cM_scan 14 = .ok (.aload_n 0, 1) := by decide +kernel
theorem dM_scan_15 : decode cM_scan 15 = .ok (.getfield 384, 3) := by decide +kernel
theorem dM_scan_18 : decode cM_scan 18 = .ok (.invokevirtual 368, 3) := by decide +kernel
theorem dM_scan_21 : decode cM_scan 21 = .ok (.bipush 32, 2) := by decide +kernel
theorem dM_scan_23 : decode cM_scan 23 = .ok (.if_icmp .ne (16), 3) := by decide +kernel
theorem dM_scan_26 : decode cM_scan 26 = .ok (.aload_n 0, 1) := by decide +kernel
theorem dM_scan_27 : decode cM_scan 27 = .ok (.dup, 1) := by decide +kernel
theorem dM_scan_28 : decode cM_scan 28 = .ok (.getfield 384, 3) := by decide +kernel
theorem dM_scan_31 : decode cM_scan 31 = .ok (.iconst 1, 1) := by decide +kernel
theorem dM_scan_32 : decode cM_scan 32 = .ok (.iadd, 1) := by decide +kernel
theorem dM_scan_33 : decode cM_scan 33 = .ok (.putfield 384, 3) := by decide +kernel
theorem dM_scan_36 : decode cM_scan 36 = .ok (.goto (-36), 3) := by decide +kernel
theorem dM_scan_39 : decode cM_scan 39 = .ok (.aload_n 0, 1) := by decide +kernel
theorem dM_scan_40 : decode cM_scan 40 = .ok (.aload_n 0, 1) := by decide +kernel
theorem dM_scan_41 : decode cM_scan 41 = .ok (.getfield 384, 3) := by decide +kernel
theorem dM_scan_44 : decode cM_scan 44 = .ok (.putfield 378, 3) := by decide +kernel
theorem dM_scan_47 : decode cM_scan 47 = .ok (.aload_n 0, 1) := by decide +kernel
theorem dM_scan_48 : decode cM_scan 48 = .ok (.aload_n 0, 1) := by decide +kernel
theorem dM_scan_49 : decode cM_scan 49 = .ok (.getfield 384, 3) := by decide +kernel
theorem dM_scan_52 : decode cM_scan 52 = .ok (.invokevirtual 368, 3) := by decide +kernel
theorem dM_scan_55 : decode cM_scan 55 = .ok (.istore_n 1, 1) := by decide +kernel
theorem dM_scan_56 : decode cM_scan 56 = .ok (.aload_n 0, 1) := by decide +kernel
theorem dM_scan_57 : decode cM_scan 57 = .ok (.aload_n 0, 1) := by decide +kernel
theorem dM_scan_58 : decode cM_scan 58 = .ok (.getfield 384, 3) := by decide +kernel
theorem dM_scan_61 : decode cM_scan 61 = .ok (.iconst 1, 1) := by decide +kernel
theorem dM_scan_62 : decode cM_scan 62 = .ok (.iadd, 1) := by decide +kernel
theorem dM_scan_63 : decode cM_scan 63 = .ok (.putfield 381, 3) := by decide +kernel
theorem dM_scan_66 : decode cM_scan 66 = .ok (.iload_n 1, 1) := by decide +kernel
theorem dM_scan_67 : decode cM_scan 67 = .ok (.bipush 10, 2) := by decide +kernel
theorem dM_scan_69 : decode cM_scan 69 = .ok (.if_icmp .eq (9), 3) := by decide +kernel
theorem dM_scan_72 : decode cM_scan 72 = .ok (.iload_n 1, 1) := by decide +kernel
theorem dM_scan_73 : decode cM_scan 73 = .ok (.bipush 35, 2) := by decide +kernel
theorem dM_scan_75 : decode cM_scan 75 = .ok (.if_icmp .ne (19), 3) := by decide +kernel
theorem dM_scan_78 : decode cM_scan 78 = .ok (.aload_n 0, 1) := by decide +kernel
theorem dM_scan_79 : decode cM_scan 79 = .ok (.iconst 0, 1) := by decide +kernel
theorem dM_scan_80 : decode cM_scan 80 = .ok (.putfield 375, 3) := by decide +kernel
theorem dM_scan_83 : decode cM_scan 83 = .ok (.aload_n 0, 1) := by decide +kernel
theorem dM_scan_84 : decode cM_scan 84 = .ok (.aload_n 0, 1) := by decide +kernel
theorem dM_scan_85 : decode cM_scan 85 = .ok (.getfield 384, 3) := by decide +kernel
theorem dM_scan_88 : decode cM_scan 88 = .ok (.putfield 381, 3) := by decide +kernel
theorem dM_scan_91 : decode cM_scan 91 = .ok (.goto (257), 3) := by decide +kernel
theorem dM_scan_94 : decode cM_scan 94 = .ok (.iload_n 1, 1) := by decide +kernel
theorem dM_scan_95 : decode cM_scan 95 = .ok (.invokestatic 361, 3) := by decide +kernel
theorem dM_scan_98 : decode cM_scan 98 = .ok (.ifCond .eq (22), 3) := by decide +kernel
theorem dM_scan_101 : decode cM_scan 101 = .ok (.aload_n 0, 1) := by decide +kernel
theorem dM_scan_102 : decode cM_scan 102 = .ok (.aload_n 0, 1) := by decide +kernel
theorem dM_scan_103 : decode cM_scan 103 = .ok (.aload_n 0, 1) := by decide +kernel
theorem dM_scan_104 : decode cM_scan 104 = .ok (.getfield 384, 3) := by decide +kernel
theorem dM_scan_107 : decode cM_scan 107 = .ok (.invokevirtual 387, 3) := by decide +kernel
theorem dM_scan_110 : decode cM_scan 110 = .ok (.putfield 381, 3) := by decide +kernel
theorem dM_scan_113 : decode cM_scan 113 = .ok (.aload_n 0, 1) := by decide +kernel
theorem dM_scan_114 : decode cM_scan 114 = .ok (.invokevirtual 390, 3) := by decide +kernel
theorem dM_scan_117 : decode cM_scan 117 = .ok (.goto (231), 3) := by decide +kernel
theorem dM_scan_120 : decode cM_scan 120 = .ok (.iload_n 1, 1) := by decide +kernel
theorem dM_scan_121 : decode cM_scan 121 = .ok (.invokestatic 372, 3) := by decide +kernel
theorem dM_scan_124 : decode cM_scan 124 = .ok (.ifCond .eq (41), 3) := by decide +kernel
theorem dM_scan_127 : decode cM_scan 127 = .ok (.aload_n 0, 1) := by decide +kernel
theorem dM_scan_128 : decode cM_scan 128 = .ok (.aload_n 0, 1) := by decide +kernel
theorem dM_scan_129 : decode cM_scan 129 = .ok (.aload_n 0, 1) := by decide +kernel
theorem dM_scan_130 : decode cM_scan 130 = .ok (.getfield 384, 3) := by decide +kernel
theorem dM_scan_133 : decode cM_scan 133 = .ok (.invokevirtual 387, 3) := by decide +kernel
theorem dM_scan_136 : decode cM_scan 136 = .ok (.putfield 381, 3) := by decide +kernel
theorem dM_scan_139 : decode cM_scan 139 = .ok (.aload_n 0, 1) := by decide +kernel
theorem dM_scan_140 : decode cM_scan 140 = .ok (.iconst 1, 1) := by decide +kernel
theorem dM_scan_141 : decode cM_scan 141 = .ok (.putfield 375, 3) := by decide +kernel
theorem dM_scan_144 : decode cM_scan 144 = .ok (.aload_n 0, 1) := by decide +kernel
theorem dM_scan_145 : decode cM_scan 145 = .ok (.getfield 381, 3) := by decide +kernel
theorem dM_scan_148 : decode cM_scan 148 = .ok (.aload_n 0, 1) := by decide +kernel
theorem dM_scan_149 : decode cM_scan 149 = .ok (.getfield 378, 3) := by decide +kernel
theorem dM_scan_152 : decode cM_scan 152 = .ok (.isub, 1) := by decide +kernel
theorem dM_scan_153 : decode cM_scan 153 = .ok (.bipush 31, 2) := by decide +kernel
theorem dM_scan_155 : decode cM_scan 155 = .ok (.if_icmp .le (193), 3) := by decide +kernel
theorem dM_scan_158 : decode cM_scan 158 = .ok (.aload_n 0, 1) := by decide +kernel
theorem dM_scan_159 : decode cM_scan 159 = .ok (.invokevirtual 393, 3) := by decide +kernel
theorem dM_scan_162 : decode cM_scan 162 = .ok (.goto (186), 3) := by decide +kernel
theorem dM_scan_165 : decode cM_scan 165 = .ok (.iload_n 1, 1) := by decide +kernel
theorem dM_scan_166 : decode cM_scan 166 = .ok (.bipush 39, 2) := by decide +kernel
theorem dM_scan_168 : decode cM_scan 168 = .ok (.if_icmp .ne (10), 3) := by decide +kernel
theorem dM_scan_171 : decode cM_scan 171 = .ok (.aload_n 0, 1) := by decide +kernel
theorem dM_scan_172 : decode cM_scan 172 = .ok (.invokevirtual 396, 3) := by decide +kernel
theorem dM_scan_175 : decode cM_scan 175 = .ok (.goto (173), 3) := by decide +kernel
theorem dM_scan_178 : decode cM_scan 178 = .ok (.iload_n 1, 1) := by decide +kernel
theorem dM_scan_179 : decode cM_scan 179 = .ok (.bipush 34, 2) := by decide +kernel
theorem dM_scan_181 : decode cM_scan 181 = .ok (.if_icmp .ne (10), 3) := by decide +kernel
theorem dM_scan_184 : decode cM_scan 184 = .ok (.aload_n 0, 1) := by decide +kernel
theorem dM_scan_185 : decode cM_scan 185 = .ok (.invokevirtual 399, 3) := by decide +kernel
theorem dM_scan_188 : decode cM_scan 188 = .ok (.goto (160), 3) := by decide +kernel
theorem dM_scan_191 : decode cM_scan 191 = .ok (.iload_n 1, 1) := by decide +kernel
theorem dM_scan_192 : decode cM_scan 192 = .ok (.bipush 60, 2) := by decide +kernel
theorem dM_scan_194 : decode cM_scan 194 = .ok (.if_icmp .eq (9), 3) := by decide +kernel
theorem dM_scan_197 : decode cM_scan 197 = .ok (.iload_n 1, 1) := by decide +kernel
theorem dM_scan_198 : decode cM_scan 198 = .ok (.bipush 62, 2) := by decide +kernel
theorem dM_scan_200 : decode cM_scan 200 = .ok (.if_icmp .ne (51), 3) := by decide +kernel
theorem dM_scan_203 : decode cM_scan 203 = .ok (.aload_n 0, 1) := by decide +kernel
theorem dM_scan_204 : decode cM_scan 204 = .ok (.iload_n 1, 1) := by decide +kernel
theorem dM_scan_205 : decode cM_scan 205 = .ok (.bipush 60, 2) := by decide +kernel
theorem dM_scan_207 : decode cM_scan 207 = .ok (.if_icmp .ne (8), 3) := by decide +kernel
theorem dM_scan_210 : decode cM_scan 210 = .ok (.bipush 6, 2) := by decide +kernel
theorem dM_scan_212 : decode cM_scan 212 = .ok (.goto (5), 3) := by decide +kernel
theorem dM_scan_215 : decode cM_scan 215 = .ok (.bipush 7, 2) := by decide +kernel
theorem dM_scan_217 : decode cM_scan 217 = .ok (.putfield 375, 3) := by decide +kernel
theorem dM_scan_220 : decode cM_scan 220 = .ok (.aload_n 0, 1) := by decide +kernel
theorem dM_scan_221 : decode cM_scan 221 = .ok (.aload_n 0, 1) := by decide +kernel
theorem dM_scan_222 : decode cM_scan 222 = .ok (.getfield 384, 3) := by decide +kernel
theorem dM_scan_225 : decode cM_scan 225 = .ok (.iconst 2, 1) := by decide +kernel
theorem dM_scan_226 : decode cM_scan 226 = .ok (.iadd, 1) := by decide +kernel
theorem dM_scan_227 : decode cM_scan 227 = .ok (.putfield 381, 3) := by decide +kernel
theorem dM_scan_230 : decode cM_scan 230 = .ok (.aload_n 0, 1) := by decide +kernel
theorem dM_scan_231 : decode cM_scan 231 = .ok (.aload_n 0, 1) := by decide +kernel
theorem dM_scan_232 : decode cM_scan 232 = .ok (.getfield 384, 3) := by decide +kernel
theorem dM_scan_235 : decode cM_scan 235 = .ok (.iconst 1, 1) := by decide +kernel
theorem dM_scan_236 : decode cM_scan 236 = .ok (.iadd, 1) := by decide +kernel
theorem dM_scan_237 : decode cM_scan 237 = .ok (.invokevirtual 368, 3) := by decide +kernel
theorem dM_scan_240 : decode cM_scan 240 = .ok (.iload_n 1, 1) := by decide +kernel
theorem dM_scan_241 : decode cM_scan 241 = .ok (.if_icmp .eq (107), 3) := by decide +kernel
theorem dM_scan_244 : decode cM_scan 244 = .ok (.aload_n 0, 1) := by decide +kernel
theorem dM_scan_245 : decode cM_scan 245 = .ok (.invokevirtual 393, 3) := by decide +kernel
theorem dM_scan_248 : decode cM_scan 248 = .ok (.goto (100), 3) := by decide +kernel
theorem dM_scan_251 : decode cM_scan 251 = .ok (.iload_n 1, 1) := by decide +kernel
theorem dM_scan_252 : decode cM_scan 252 = .ok (.bipush 58, 2) := by decide +kernel
theorem dM_scan_254 : decode cM_scan 254 = .ok (.if_icmp .eq (75), 3) := by decide +kernel
theorem dM_scan_257 : decode cM_scan 257 = .ok (.iload_n 1, 1) := by decide +kernel
theorem dM_scan_258 : decode cM_scan 258 = .ok (.bipush 44, 2) := by decide +kernel
theorem dM_scan_260 : decode cM_scan 260 = .ok (.if_icmp .eq (69), 3) := by decide +kernel
theorem dM_scan_263 : decode cM_scan 263 = .ok (.iload_n 1, 1) := by decide +kernel
theorem dM_scan_264 : decode cM_scan 264 = .ok (.bipush 40, 2) := by decide +kernel
theorem dM_scan_266 : decode cM_scan 266 = .ok (.if_icmp .eq (63), 3) := by decide +kernel
theorem dM_scan_269 : decode cM_scan 269 = .ok (.iload_n 1, 1) := by decide +kernel
theorem dM_scan_270 : decode cM_scan 270 = .ok (.bipush 41, 2) := by decide +kernel
theorem dM_scan_272 : decode cM_scan 272 = .ok (.if_icmp .eq (57), 3) := by decide +kernel
theorem dM_scan_275 : decode cM_scan 275 = .ok (.iload_n 1, 1) := by decide +kernel
theorem dM_scan_276 : decode cM_scan 276 = .ok (.bipush 43, 2) := by decide +kernel
theorem dM_scan_278 : decode cM_scan 278 = .ok (.if_icmp .eq (51), 3) := by decide +kernel
theorem dM_scan_281 : decode cM_scan 281 = .ok (.iload_n 1, 1) := by decide +kernel
theorem dM_scan_282 : decode cM_scan 282 = .ok (.bipush 45, 2) := by decide +kernel
theorem dM_scan_284 : decode cM_scan 284 = .ok (.if_icmp .eq (45), 3) := by decide +kernel
theorem dM_scan_287 : decode cM_scan 287 = .ok (.iload_n 1, 1) := by decide +kernel
theorem dM_scan_288 : decode cM_scan 288 = .ok (.bipush 42, 2) := by decide +kernel
theorem dM_scan_290 : decode cM_scan 290 = .ok (.if_icmp .eq (39), 3) := by decide +kernel
theorem dM_scan_293 : decode cM_scan 293 = .ok (.iload_n 1, 1) := by decide +kernel
theorem dM_scan_294 : decode cM_scan 294 = .ok (.bipush 47, 2) := by decide +kernel
theorem dM_scan_296 : decode cM_scan 296 = .ok (.if_icmp .eq (33), 3) := by decide +kernel
theorem dM_scan_299 : decode cM_scan 299 = .ok (.iload_n 1, 1) := by decide +kernel
theorem dM_scan_300 : decode cM_scan 300 = .ok (.bipush 37, 2) := by decide +kernel
theorem dM_scan_302 : decode cM_scan 302 = .ok (.if_icmp .eq (27), 3) := by decide +kernel
theorem dM_scan_305 : decode cM_scan 305 = .ok (.iload_n 1, 1) := by decide +kernel
theorem dM_scan_306 : decode cM_scan 306 = .ok (.bipush 38, 2) := by decide +kernel
theorem dM_scan_308 : decode cM_scan 308 = .ok (.if_icmp .eq (21), 3) := by decide +kernel
theorem dM_scan_311 : decode cM_scan 311 = .ok (.iload_n 1, 1) := by decide +kernel
theorem dM_scan_312 : decode cM_scan 312 = .ok (.bipush 124, 2) := by decide +kernel
theorem dM_scan_314 : decode cM_scan 314 = .ok (.if_icmp .eq (15), 3) := by decide +kernel
theorem dM_scan_317 : decode cM_scan 317 = .ok (.iload_n 1, 1) := by decide +kernel
theorem dM_scan_318 : decode cM_scan 318 = .ok (.bipush 94, 2) := by decide +kernel
theorem dM_scan_320 : decode cM_scan 320 = .ok (.if_icmp .eq (9), 3) := by decide +kernel
theorem dM_scan_323 : decode cM_scan 323 = .ok (.iload_n 1, 1) := by decide +kernel
theorem dM_scan_324 : decode cM_scan 324 = .ok (.bipush 126, 2) := by decide +kernel
theorem dM_scan_326 : decode cM_scan 326 = .ok (.if_icmp .ne (7), 3) := by decide +kernel
theorem dM_scan_329 : decode cM_scan 329 = .ok (.iconst 1, 1) := by decide +kernel
theorem dM_scan_330 : decode cM_scan 330 = .ok (.goto (4), 3) := by decide +kernel
theorem dM_scan_333 : decode cM_scan 333 = .ok (.iconst 0, 1) := by decide +kernel
theorem dM_scan_334 : decode cM_scan 334 = .ok (.istore_n 2, 1) := by decide +kernel
theorem dM_scan_335 : decode cM_scan 335 = .ok (.aload_n 0, 1) := by decide +kernel
theorem dM_scan_336 : decode cM_scan 336 = .ok (.iload_n 1, 1) := by decide +kernel
theorem dM_scan_337 : decode cM_scan 337 = .ok (.putfield 375, 3) := by decide +kernel
theorem dM_scan_340 : decode cM_scan 340 = .ok (.iload_n 2, 1) := by decide +kernel
theorem dM_scan_341 : decode cM_scan 341 = .ok (.ifCond .ne (7), 3) := by decide +kernel
theorem dM_scan_344 : decode cM_scan 344 = .ok (.aload_n 0, 1) := by decide +kernel
theorem dM_scan_345 : decode cM_scan 345 = .ok (.invokevirtual 393, 3) := by decide +kernel
theorem dM_scan_348 : decode cM_scan 348 = .ok (.aload_n 0, 1) := by decide +kernel
theorem dM_scan_349 : decode cM_scan 349 = .ok (.aload_n 0, 1) := by decide +kernel
theorem dM_scan_350 : decode cM_scan 350 = .ok (.getfield 381, 3) := by decide +kernel
theorem dM_scan_353 : decode cM_scan 353 = .ok (.putfield 384, 3) := by decide +kernel
theorem dM_scan_356 : decode cM_scan 356 = .ok (.return_, 1) := by decide +kernel
abbrev cM_needs : ByteArray := prog_14_method_19_code
def yM_needs : MethodName := ⟨RM, "needs", "(I)Z"⟩
abbrev rm_needs : Room := { frames := 5, cells := 0, slots := 0, locals := 114 }
theorem dM_needs_0 : decode cM_needs 0 = .ok (.aload_n 0, 1) := by decide +kernel
theorem dM_needs_1 : decode cM_needs 1 = .ok (.invokevirtual 426, 3) := by decide +kernel
theorem dM_needs_4 : decode cM_needs 4 = .ok (.aload_n 0, 1) := by decide +kernel
theorem dM_needs_5 : decode cM_needs 5 = .ok (.getfield 375, 3) := by decide +kernel
theorem dM_needs_8 : decode cM_needs 8 = .ok (.iload_n 1, 1) := by decide +kernel
theorem dM_needs_9 : decode cM_needs 9 = .ok (.if_icmp .eq (8), 3) := by decide +kernel
theorem dM_needs_12 : decode cM_needs 12 = .ok (.aload_n 0, 1) := by decide +kernel
theorem dM_needs_13 : decode cM_needs 13 = .ok (.iconst 1, 1) := by decide +kernel
theorem dM_needs_14 : decode cM_needs 14 = .ok (.invokevirtual 429, 3) := by decide +kernel
theorem dM_needs_17 : decode cM_needs 17 = .ok (.aload_n 0, 1) := by decide +kernel
theorem dM_needs_18 : decode cM_needs 18 = .ok (.getfield 375, 3) := by decide +kernel
theorem dM_needs_21 : decode cM_needs 21 = .ok (.iload_n 1, 1) := by decide +kernel
theorem dM_needs_22 : decode cM_needs 22 = .ok (.if_icmp .ne (7), 3) := by decide +kernel
theorem dM_needs_25 : decode cM_needs 25 = .ok (.iconst 1, 1) := by decide +kernel
theorem dM_needs_26 : decode cM_needs 26 = .ok (.goto (4), 3) := by decide +kernel
theorem dM_needs_29 : decode cM_needs 29 = .ok (.iconst 0, 1) := by decide +kernel
theorem dM_needs_30 : decode cM_needs 30 = .ok (.ireturn, 1) := by decide +kernel
abbrev cM_packed : ByteArray := prog_14_method_20_code
def yM_packed : MethodName := ⟨RM, "packed", "(II)J"⟩
abbrev rm_packed : Room := { frames := 1, cells := 0, slots := 0, locals := 20 }
theorem dM_packed_0 : decode cM_packed 0 = .ok (.iload_n 2, 1) := by decide +kernel
theorem dM_packed_1 : decode cM_packed 1 = .ok (.iload_n 1, 1) := by decide +kernel
theorem dM_packed_2 : decode cM_packed 2 = .ok (.isub, 1) := by decide +kernel
theorem dM_packed_3 : decode cM_packed 3 = .ok (.bipush 10, 2) := by decide +kernel
theorem dM_packed_5 : decode cM_packed 5 = .ok (.if_icmp .le (5), 3) := by decide +kernel
theorem dM_packed_8 : decode cM_packed 8 = .ok (.lconst 0, 1) := by decide +kernel
theorem dM_packed_9 : decode cM_packed 9 = .ok (.lreturn, 1) := by decide +kernel
theorem dM_packed_10 : decode cM_packed 10 = .ok (.lconst 0, 1) := by decide +kernel
theorem dM_packed_11 : decode cM_packed 11 = .ok (.lstore_n 3, 1) := by decide +kernel
theorem dM_packed_12 : decode cM_packed 12 = .ok (.iload_n 2, 1) := by decide +kernel
theorem dM_packed_13 : decode cM_packed 13 = .ok (.iconst 1, 1) := by decide +kernel
theorem dM_packed_14 : decode cM_packed 14 = .ok (.isub, 1) := by decide +kernel
theorem dM_packed_15 : decode cM_packed 15 = .ok (.istore 5, 2) := by decide +kernel
theorem dM_packed_17 : decode cM_packed 17 = .ok (.iload 5, 2) := by decide +kernel
theorem dM_packed_19 : decode cM_packed 19 = .ok (.iload_n 1, 1) := by decide +kernel
theorem dM_packed_20 : decode cM_packed 20 = .ok (.if_icmp .lt (91), 3) := by decide +kernel
theorem dM_packed_23 : decode cM_packed 23 = .ok (.aload_n 0, 1) := by decide +kernel
theorem dM_packed_24 : decode cM_packed 24 = .ok (.getfield 327, 3) := by decide +kernel
theorem dM_packed_27 : decode cM_packed 27 = .ok (.iload 5, 2) := by decide +kernel
theorem dM_packed_29 : decode cM_packed 29 = .ok (.caload, 1) := by decide +kernel
theorem dM_packed_30 : decode cM_packed 30 = .ok (.istore 6, 2) := by decide +kernel
theorem dM_packed_32 : decode cM_packed 32 = .ok (.iload 6, 2) := by decide +kernel
theorem dM_packed_34 : decode cM_packed 34 = .ok (.bipush 65, 2) := by decide +kernel
theorem dM_packed_36 : decode cM_packed 36 = .ok (.if_icmp .lt (10), 3) := by decide +kernel
theorem dM_packed_39 : decode cM_packed 39 = .ok (.iload 6, 2) := by decide +kernel
theorem dM_packed_41 : decode cM_packed 41 = .ok (.bipush 90, 2) := by decide +kernel
theorem dM_packed_43 : decode cM_packed 43 = .ok (.if_icmp .le (17), 3) := by decide +kernel
theorem dM_packed_46 : decode cM_packed 46 = .ok (.iload 6, 2) := by decide +kernel
theorem dM_packed_48 : decode cM_packed 48 = .ok (.bipush 95, 2) := by decide +kernel
theorem dM_packed_50 : decode cM_packed 50 = .ok (.if_icmp .eq (10), 3) := by decide +kernel
theorem dM_packed_53 : decode cM_packed 53 = .ok (.iload 6, 2) := by decide +kernel
theorem dM_packed_55 : decode cM_packed 55 = .ok (.bipush 36, 2) := by decide +kernel
theorem dM_packed_57 : decode cM_packed 57 = .ok (.if_icmp .ne (5), 3) := by decide +kernel
theorem dM_packed_60 : decode cM_packed 60 = .ok (.lconst 0, 1) := by decide +kernel
theorem dM_packed_61 : decode cM_packed 61 = .ok (.lreturn, 1) := by decide +kernel
theorem dM_packed_62 : decode cM_packed 62 = .ok (.lload_n 3, 1) := by decide +kernel
theorem dM_packed_63 : decode cM_packed 63 = .ok (.bipush 6, 2) := by decide +kernel
theorem dM_packed_65 : decode cM_packed 65 = .ok (.lshl, 1) := by decide +kernel
theorem dM_packed_66 : decode cM_packed 66 = .ok (.iload 6, 2) := by decide +kernel
theorem dM_packed_68 : decode cM_packed 68 = .ok (.bipush 46, 2) := by decide +kernel
theorem dM_packed_70 : decode cM_packed 70 = .ok (.if_icmp .ne (8), 3) := by decide +kernel
theorem dM_packed_73 : decode cM_packed 73 = .ok (.bipush 37, 2) := by decide +kernel
theorem dM_packed_75 : decode cM_packed 75 = .ok (.goto (27), 3) := by decide +kernel
theorem dM_packed_78 : decode cM_packed 78 = .ok (.iload 6, 2) := by decide +kernel
theorem dM_packed_80 : decode cM_packed 80 = .ok (.invokestatic 361, 3) := by decide +kernel
theorem dM_packed_83 : decode cM_packed 83 = .ok (.ifCond .eq (14), 3) := by decide +kernel
theorem dM_packed_86 : decode cM_packed 86 = .ok (.bipush 27, 2) := by decide +kernel
theorem dM_packed_88 : decode cM_packed 88 = .ok (.iload 6, 2) := by decide +kernel
theorem dM_packed_90 : decode cM_packed 90 = .ok (.iadd, 1) := by decide +kernel
theorem dM_packed_91 : decode cM_packed 91 = .ok (.bipush 48, 2) := by decide +kernel
theorem dM_packed_93 : decode cM_packed 93 = .ok (.isub, 1) := by decide +kernel
theorem dM_packed_94 : decode cM_packed 94 = .ok (.goto (8), 3) := by decide +kernel
theorem dM_packed_97 : decode cM_packed 97 = .ok (.iload 6, 2) := by decide +kernel
theorem dM_packed_99 : decode cM_packed 99 = .ok (.bipush 96, 2) := by decide +kernel
theorem dM_packed_101 : decode cM_packed 101 = .ok (.isub, 1) := by decide +kernel
theorem dM_packed_102 : decode cM_packed 102 = .ok (.i2l, 1) := by decide +kernel
theorem dM_packed_103 : decode cM_packed 103 = .ok (.lor, 1) := by decide +kernel
theorem dM_packed_104 : decode cM_packed 104 = .ok (.lstore_n 3, 1) := by decide +kernel
theorem dM_packed_105 : decode cM_packed 105 = .ok (.iinc 5 (-1), 3) := by decide +kernel
theorem dM_packed_108 : decode cM_packed 108 = .ok (.goto (-91), 3) := by decide +kernel
theorem dM_packed_111 : decode cM_packed 111 = .ok (.lload_n 3, 1) := by decide +kernel
theorem dM_packed_112 : decode cM_packed 112 = .ok (.lreturn, 1) := by decide +kernel
abbrev cM_register : ByteArray := prog_14_method_21_code
def yM_register : MethodName := ⟨RM, "register", "(II)I"⟩
abbrev rm_register : Room := { frames := 2, cells := 0, slots := 0, locals := 46 }
theorem dM_register_0 : decode cM_register 0 = .ok (.aload_n 0, 1) := by decide +kernel
theorem dM_register_1 : decode cM_register 1 = .ok (.iload_n 1, 1) := by decide +kernel
theorem dM_register_2 : decode cM_register 2 = .ok (.iload_n 2, 1) := by decide +kernel
theorem dM_register_3 : decode cM_register 3 = .ok (.invokevirtual 433, 3) := by decide +kernel
theorem dM_register_6 : decode cM_register 6 = .ok (.lstore_n 3, 1) := by decide +kernel
theorem dM_register_7 : decode cM_register 7 = .ok (.lload_n 3, 1) := by decide +kernel
theorem dM_register_8 : decode cM_register 8 = .ok (.ldc2_w 437, 3) := by decide +kernel
theorem dM_register_11 : decode cM_register 11 = .ok (.lcmp, 1) := by decide +kernel
theorem dM_register_12 : decode cM_register 12 = .ok (.ifCond .ne (5), 3) := by decide +kernel
theorem dM_register_15 : decode cM_register 15 = .ok (.iconst 0, 1) := by decide +kernel
theorem dM_register_16 : decode cM_register 16 = .ok (.ireturn, 1) := by decide +kernel
theorem dM_register_17 : decode cM_register 17 = .ok (.lload_n 3, 1) := by decide +kernel
theorem dM_register_18 : decode cM_register 18 = .ok (.ldc2_w 439, 3) := by decide +kernel
theorem dM_register_21 : decode cM_register 21 = .ok (.lcmp, 1) := by decide +kernel
theorem dM_register_22 : decode cM_register 22 = .ok (.ifCond .ne (5), 3) := by decide +kernel
theorem dM_register_25 : decode cM_register 25 = .ok (.iconst 1, 1) := by decide +kernel
theorem dM_register_26 : decode cM_register 26 = .ok (.ireturn, 1) := by decide +kernel
theorem dM_register_27 : decode cM_register 27 = .ok (.lload_n 3, 1) := by decide +kernel
theorem dM_register_28 : decode cM_register 28 = .ok (.ldc2_w 441, 3) := by decide +kernel
theorem dM_register_31 : decode cM_register 31 = .ok (.lcmp, 1) := by decide +kernel
theorem dM_register_32 : decode cM_register 32 = .ok (.ifCond .ne (5), 3) := by decide +kernel
theorem dM_register_35 : decode cM_register 35 = .ok (.iconst 2, 1) := by decide +kernel
theorem dM_register_36 : decode cM_register 36 = .ok (.ireturn, 1) := by decide +kernel
theorem dM_register_37 : decode cM_register 37 = .ok (.lload_n 3, 1) := by decide +kernel
theorem dM_register_38 : decode cM_register 38 = .ok (.ldc2_w 443, 3) := by decide +kernel
theorem dM_register_41 : decode cM_register 41 = .ok (.lcmp, 1) := by decide +kernel
theorem dM_register_42 : decode cM_register 42 = .ok (.ifCond .ne (5), 3) := by decide +kernel
theorem dM_register_45 : decode cM_register 45 = .ok (.iconst 3, 1) := by decide +kernel
theorem dM_register_46 : decode cM_register 46 = .ok (.ireturn, 1) := by decide +kernel
theorem dM_register_47 : decode cM_register 47 = .ok (.lload_n 3, 1) := by decide +kernel
theorem dM_register_48 : decode cM_register 48 = .ok (.ldc2_w 445, 3) := by decide +kernel
theorem dM_register_51 : decode cM_register 51 = .ok (.lcmp, 1) := by decide +kernel
theorem dM_register_52 : decode cM_register 52 = .ok (.ifCond .ne (5), 3) := by decide +kernel
theorem dM_register_55 : decode cM_register 55 = .ok (.iconst 4, 1) := by decide +kernel
theorem dM_register_56 : decode cM_register 56 = .ok (.ireturn, 1) := by decide +kernel
theorem dM_register_57 : decode cM_register 57 = .ok (.lload_n 3, 1) := by decide +kernel
theorem dM_register_58 : decode cM_register 58 = .ok (.ldc2_w 447, 3) := by decide +kernel
theorem dM_register_61 : decode cM_register 61 = .ok (.lcmp, 1) := by decide +kernel
theorem dM_register_62 : decode cM_register 62 = .ok (.ifCond .ne (6), 3) := by decide +kernel
theorem dM_register_65 : decode cM_register 65 = .ok (.bipush 8, 2) := by decide +kernel
theorem dM_register_67 : decode cM_register 67 = .ok (.ireturn, 1) := by decide +kernel
theorem dM_register_68 : decode cM_register 68 = .ok (.iload_n 2, 1) := by decide +kernel
theorem dM_register_69 : decode cM_register 69 = .ok (.iload_n 1, 1) := by decide +kernel
theorem dM_register_70 : decode cM_register 70 = .ok (.isub, 1) := by decide +kernel
theorem dM_register_71 : decode cM_register 71 = .ok (.iconst 2, 1) := by decide +kernel
theorem dM_register_72 : decode cM_register 72 = .ok (.if_icmp .lt (24), 3) := by decide +kernel
theorem dM_register_75 : decode cM_register 75 = .ok (.iload_n 2, 1) := by decide +kernel
theorem dM_register_76 : decode cM_register 76 = .ok (.iload_n 1, 1) := by decide +kernel
theorem dM_register_77 : decode cM_register 77 = .ok (.isub, 1) := by decide +kernel
theorem dM_register_78 : decode cM_register 78 = .ok (.iconst 3, 1) := by decide +kernel
theorem dM_register_79 : decode cM_register 79 = .ok (.if_icmp .gt (17), 3) := by decide +kernel
theorem dM_register_82 : decode cM_register 82 = .ok (.aload_n 0, 1) := by decide +kernel
theorem dM_register_83 : decode cM_register 83 = .ok (.getfield 327, 3) := by decide +kernel
theorem dM_register_86 : decode cM_register 86 = .ok (.iload_n 1, 1) := by decide +kernel
theorem dM_register_87 : decode cM_register 87 = .ok (.iconst 1, 1) := by decide +kernel
theorem dM_register_88 : decode cM_register 88 = .ok (.iadd, 1) := by decide +kernel
theorem dM_register_89 : decode cM_register 89 = .ok (.caload, 1) := by decide +kernel
theorem dM_register_90 : decode cM_register 90 = .ok (.invokestatic 361, 3) := by decide +kernel
theorem dM_register_93 : decode cM_register 93 = .ok (.ifCond .ne (5), 3) := by decide +kernel
theorem dM_register_96 : decode cM_register 96 = .ok (.iconst (-1), 1) := by decide +kernel
theorem dM_register_97 : decode cM_register 97 = .ok (.ireturn, 1) := by decide +kernel
theorem dM_register_98 : decode cM_register 98 = .ok (.aload_n 0, 1) := by decide +kernel
theorem dM_register_99 : decode cM_register 99 = .ok (.getfield 327, 3) := by decide +kernel
theorem dM_register_102 : decode cM_register 102 = .ok (.iload_n 1, 1) := by decide +kernel
theorem dM_register_103 : decode cM_register 103 = .ok (.iconst 1, 1) := by decide +kernel
theorem dM_register_104 : decode cM_register 104 = .ok (.iadd, 1) := by decide +kernel
theorem dM_register_105 : decode cM_register 105 = .ok (.caload, 1) := by decide +kernel
theorem dM_register_106 : decode cM_register 106 = .ok (.bipush 48, 2) := by decide +kernel
theorem dM_register_108 : decode cM_register 108 = .ok (.isub, 1) := by decide +kernel
theorem dM_register_109 : decode cM_register 109 = .ok (.istore 5, 2) := by decide +kernel
theorem dM_register_111 : decode cM_register 111 = .ok (.iload_n 2, 1) := by decide +kernel
theorem dM_register_112 : decode cM_register 112 = .ok (.iload_n 1, 1) := by decide +kernel
theorem dM_register_113 : decode cM_register 113 = .ok (.isub, 1) := by decide +kernel
theorem dM_register_114 : decode cM_register 114 = .ok (.iconst 3, 1) := by decide +kernel
theorem dM_register_115 : decode cM_register 115 = .ok (.if_icmp .ne (46), 3) := by decide +kernel
theorem dM_register_118 : decode cM_register 118 = .ok (.iload 5, 2) := by decide +kernel
theorem dM_register_120 : decode cM_register 120 = .ok (.ifCond .eq (17), 3) := by decide +kernel
theorem dM_register_123 : decode cM_register 123 = .ok (.aload_n 0, 1) := by decide +kernel
theorem dM_register_124 : decode cM_register 124 = .ok (.getfield 327, 3) := by decide +kernel
theorem dM_register_127 : decode cM_register 127 = .ok (.iload_n 1, 1) := by decide +kernel
theorem dM_register_128 : decode cM_register 128 = .ok (.iconst 2, 1) := by decide +kernel
theorem dM_register_129 : decode cM_register 129 = .ok (.iadd, 1) := by decide +kernel
theorem dM_register_130 : decode cM_register 130 = .ok (.caload, 1) := by decide +kernel
theorem dM_register_131 : decode cM_register 131 = .ok (.invokestatic 361, 3) := by decide +kernel
theorem dM_register_134 : decode cM_register 134 = .ok (.ifCond .ne (8), 3) := by decide +kernel
theorem dM_register_137 : decode cM_register 137 = .ok (.bipush 99, 2) := by decide +kernel
theorem dM_register_139 : decode cM_register 139 = .ok (.goto (20), 3) := by decide +kernel
theorem dM_register_142 : decode cM_register 142 = .ok (.bipush 10, 2) := by decide +kernel
theorem dM_register_144 : decode cM_register 144 = .ok (.iload 5, 2) := by decide +kernel
theorem dM_register_146 : decode cM_register 146 = .ok (.imul, 1) := by decide +kernel
theorem dM_register_147 : decode cM_register 147 = .ok (.aload_n 0, 1) := by decide +kernel
theorem dM_register_148 : decode cM_register 148 = .ok (.getfield 327, 3) := by decide +kernel
theorem dM_register_151 : decode cM_register 151 = .ok (.iload_n 1, 1) := by decide +kernel
theorem dM_register_152 : decode cM_register 152 = .ok (.iconst 2, 1) := by decide +kernel
theorem dM_register_153 : decode cM_register 153 = .ok (.iadd, 1) := by decide +kernel
theorem dM_register_154 : decode cM_register 154 = .ok (.caload, 1) := by decide +kernel
theorem dM_register_155 : decode cM_register 155 = .ok (.iadd, 1) := by decide +kernel
theorem dM_register_156 : decode cM_register 156 = .ok (.bipush 48, 2) := by decide +kernel
theorem dM_register_158 : decode cM_register 158 = .ok (.isub, 1) := by decide +kernel
theorem dM_register_159 : decode cM_register 159 = .ok (.istore 5, 2) := by decide +kernel
theorem dM_register_161 : decode cM_register 161 = .ok (.aload_n 0, 1) := by decide +kernel
theorem dM_register_162 : decode cM_register 162 = .ok (.getfield 327, 3) := by decide +kernel
theorem dM_register_165 : decode cM_register 165 = .ok (.iload_n 1, 1) := by decide +kernel
theorem dM_register_166 : decode cM_register 166 = .ok (.caload, 1) := by decide +kernel
theorem dM_register_167 : decode cM_register 167 = .ok (.istore 6, 2) := by decide +kernel
theorem dM_register_169 : decode cM_register 169 = .ok (.iload 6, 2) := by decide +kernel
theorem dM_register_171 : decode cM_register 171 = .ok (.bipush 120, 2) := by decide +kernel
theorem dM_register_173 : decode cM_register 173 = .ok (.if_icmp .ne (17), 3) := by decide +kernel
theorem dM_register_176 : decode cM_register 176 = .ok (.iload 5, 2) := by decide +kernel
theorem dM_register_178 : decode cM_register 178 = .ok (.bipush 32, 2) := by decide +kernel
theorem dM_register_180 : decode cM_register 180 = .ok (.if_icmp .ge (8), 3) := by decide +kernel
theorem dM_register_183 : decode cM_register 183 = .ok (.iload 5, 2) := by decide +kernel
theorem dM_register_185 : decode cM_register 185 = .ok (.goto (4), 3) := by decide +kernel
theorem dM_register_188 : decode cM_register 188 = .ok (.iconst (-1), 1) := by decide +kernel
theorem dM_register_189 : decode cM_register 189 = .ok (.ireturn, 1) := by decide +kernel
theorem dM_register_190 : decode cM_register 190 = .ok (.iload 6, 2) := by decide +kernel
theorem dM_register_192 : decode cM_register 192 = .ok (.bipush 97, 2) := by decide +kernel
theorem dM_register_194 : decode cM_register 194 = .ok (.if_icmp .ne (20), 3) := by decide +kernel
theorem dM_register_197 : decode cM_register 197 = .ok (.iload 5, 2) := by decide +kernel
theorem dM_register_199 : decode cM_register 199 = .ok (.bipush 8, 2) := by decide +kernel
theorem dM_register_201 : decode cM_register 201 = .ok (.if_icmp .ge (11), 3) := by decide +kernel
theorem dM_register_204 : decode cM_register 204 = .ok (.bipush 10, 2) := by decide +kernel
theorem dM_register_206 : decode cM_register 206 = .ok (.iload 5, 2) := by decide +kernel
theorem dM_register_208 : decode cM_register 208 = .ok (.iadd, 1) := by decide +kernel
theorem dM_register_209 : decode cM_register 209 = .ok (.goto (4), 3) := by decide +kernel
theorem dM_register_212 : decode cM_register 212 = .ok (.iconst (-1), 1) := by decide +kernel
theorem dM_register_213 : decode cM_register 213 = .ok (.ireturn, 1) := by decide +kernel
theorem dM_register_214 : decode cM_register 214 = .ok (.iload 6, 2) := by decide +kernel
theorem dM_register_216 : decode cM_register 216 = .ok (.bipush 116, 2) := by decide +kernel
theorem dM_register_218 : decode cM_register 218 = .ok (.if_icmp .ne (33), 3) := by decide +kernel
theorem dM_register_221 : decode cM_register 221 = .ok (.iload 5, 2) := by decide +kernel
theorem dM_register_223 : decode cM_register 223 = .ok (.iconst 3, 1) := by decide +kernel
theorem dM_register_224 : decode cM_register 224 = .ok (.if_icmp .ge (10), 3) := by decide +kernel
theorem dM_register_227 : decode cM_register 227 = .ok (.iconst 5, 1) := by decide +kernel
theorem dM_register_228 : decode cM_register 228 = .ok (.iload 5, 2) := by decide +kernel
theorem dM_register_230 : decode cM_register 230 = .ok (.iadd, 1) := by decide +kernel
theorem dM_register_231 : decode cM_register 231 = .ok (.goto (19), 3) := by decide +kernel
theorem dM_register_234 : decode cM_register 234 = .ok (.iload 5, 2) := by decide +kernel
theorem dM_register_236 : decode cM_register 236 = .ok (.bipush 7, 2) := by decide +kernel
theorem dM_register_238 : decode cM_register 238 = .ok (.if_icmp .ge (11), 3) := by decide +kernel
theorem dM_register_241 : decode cM_register 241 = .ok (.bipush 25, 2) := by decide +kernel
theorem dM_register_243 : decode cM_register 243 = .ok (.iload 5, 2) := by decide +kernel
theorem dM_register_245 : decode cM_register 245 = .ok (.iadd, 1) := by decide +kernel
theorem dM_register_246 : decode cM_register 246 = .ok (.goto (4), 3) := by decide +kernel
theorem dM_register_249 : decode cM_register 249 = .ok (.iconst (-1), 1) := by decide +kernel
theorem dM_register_250 : decode cM_register 250 = .ok (.ireturn, 1) := by decide +kernel
theorem dM_register_251 : decode cM_register 251 = .ok (.iload 6, 2) := by decide +kernel
theorem dM_register_253 : decode cM_register 253 = .ok (.bipush 115, 2) := by decide +kernel
theorem dM_register_255 : decode cM_register 255 = .ok (.if_icmp .eq (7), 3) := by decide +kernel
theorem dM_register_258 : decode cM_register 258 = .ok (.iconst (-1), 1) := by decide +kernel
theorem dM_register_259 : decode cM_register 259 = .ok (.goto (33), 3) := by decide +kernel
theorem dM_register_262 : decode cM_register 262 = .ok (.iload 5, 2) := by decide +kernel
theorem dM_register_264 : decode cM_register 264 = .ok (.iconst 2, 1) := by decide +kernel
theorem dM_register_265 : decode cM_register 265 = .ok (.if_icmp .ge (11), 3) := by decide +kernel
theorem dM_register_268 : decode cM_register 268 = .ok (.bipush 8, 2) := by decide +kernel
theorem dM_register_270 : decode cM_register 270 = .ok (.iload 5, 2) := by decide +kernel
theorem dM_register_272 : decode cM_register 272 = .ok (.iadd, 1) := by decide +kernel
theorem dM_register_273 : decode cM_register 273 = .ok (.goto (19), 3) := by decide +kernel
theorem dM_register_276 : decode cM_register 276 = .ok (.iload 5, 2) := by decide +kernel
theorem dM_register_278 : decode cM_register 278 = .ok (.bipush 12, 2) := by decide +kernel
theorem dM_register_280 : decode cM_register 280 = .ok (.if_icmp .ge (11), 3) := by decide +kernel
theorem dM_register_283 : decode cM_register 283 = .ok (.bipush 16, 2) := by decide +kernel
theorem dM_register_285 : decode cM_register 285 = .ok (.iload 5, 2) := by decide +kernel
theorem dM_register_287 : decode cM_register 287 = .ok (.iadd, 1) := by decide +kernel
theorem dM_register_288 : decode cM_register 288 = .ok (.goto (4), 3) := by decide +kernel
theorem dM_register_291 : decode cM_register 291 = .ok (.iconst (-1), 1) := by decide +kernel
theorem dM_register_292 : decode cM_register 292 = .ok (.ireturn, 1) := by decide +kernel
theorem gM_blame_429 : GoodIn lw_gd (wsV RM 429 RM yM_blame (.code yM_blame cM_blame 2 none :: lw_gd)) := lw_GV q_1859 q_1856 q_1858 qs_62 q_23
theorem gM_character_396 : GoodIn lw_gd (wsV RM 396 RM yM_character (.code yM_character cM_character 2 none :: lw_gd)) := lw_GV q_1847 q_1844 q_1846 qs_59 q_23
theorem gM_digits_390 : GoodIn lw_gd (wsV RM 390 RM yM_digits (.code yM_digits cM_digits 6 none :: lw_gd)) := lw_GV q_1830 q_1827 q_1829 qs_56 q_23
theorem gM_packed_433 : GoodIn lw_gd (wsV RM 433 RM yM_packed (.code yM_packed cM_packed 7 (some .long) :: lw_gd)) := lw_GV q_1867 q_1864 q_1866 qs_64 q_23
theorem gM_plain_387 : GoodIn lw_gd (wsV RM 387 RM yM_plain (.code yM_plain cM_plain 3 (some .int) :: lw_gd)) := lw_GV q_1820 q_1817 q_1819 qs_55 q_23
theorem gM_quote_399 : GoodIn lw_gd (wsV RM 399 RM yM_quote (.code yM_quote cM_quote 3 none :: lw_gd)) := lw_GV q_1855 q_1852 q_1854 qs_61 q_23
theorem gM_scan_426 : GoodIn lw_gd (wsV RM 426 RM yM_scan (.code yM_scan cM_scan 3 none :: lw_gd)) := lw_GV q_1809 q_1806 q_1808 qs_53 q_23
section
variable {p : Program} {l : Launch} {e : Env} {s : State} {m : MethodId} {args : Array Value} {below : List Frame} {meth : Method} {c : Code} {D : va_G} {dA : Nat → ClassId} {h : Nat → Nat} {A : Nat → Prop}
def M_plain_2 (N : Nat)  : Nat → Int32 → MS → Option Int32
  | 0 => fun _ _ => none
  | n + 1 => fun x2 σ => cr (M_charAt  x2 σ) (fun r1 => cr (M_isPlain  r1) (fun r2 => (if r2 = 0 then some x2 else (M_plain_2 N  n) (x2 + (1 : Int32)) σ)))
set_option maxHeartbeats 4000000 in
set_option maxRecDepth 100000 in
theorem bM_plain_2 (N : Nat)  {r : Int32} (C : CxM p s m args meth c cM_plain 3 (some .int) D dA A) : ∀ (n : Nat) (x2 : Int32) (σ : MS), M_plain_2 N  n x2 σ = some r → WdM D dA h A s σ s.heap [] → ∀ (ls : Array Slot), lv_has ls 3 [(0, .ref (h 0)), (2, .int x2)] → W p l e rm_plain s m args below meth c s.heap [] 0 0 (MQ below (QS (some (.int r))) args s 0 0 (fun _ => False)) (F0 m 2 ls []) := by
  have hx := C.1.1
  have hb := C.1.2.1
  have hown := C.1.2.2.2.2.1
  have hT := C.1.2.2.2.2.2.1
  intro n
  induction n with
  | zero => intro x2 σ hM; cases hM
  | succ n hrec2 =>
    intro x2 σ hM hW ls hl
    rw [M_plain_2] at hM
    refine lv_aload_n (pc := 2) hx hb dM_plain_2 rfl (lv_at hl 0 rfl) ?_
    refine lv_iload_n (pc := 3) hx hb dM_plain_3 rfl (lv_at hl 1 rfl) ?_
    obtain ⟨r1, hr1, hM⟩ := cr_some hM
    refine x_callRi (pc := 4) C hW (kM_charAt l D dA h  x2 _ hr1) gM_charAt_368 ⟨rfl, by decide, by decide, by decide +kernel⟩ ⟨rfl, rfl⟩ ⟨by decide, by decide⟩ ⟨by decide, by decide⟩ (As := [.int x2]) (n := 1) rfl hl.1 rfl (Nat.le_of_ble_eq_true rfl) dM_plain_4 ?_
    obtain ⟨r2, hr2, hM⟩ := cr_some hM
    refine x_callSi (pc := 7) C.1 (kM_isPlain l  r1 hr2) gM_isPlain_372 ⟨rfl, by decide, by decide, by decide +kernel⟩ ⟨rfl, rfl⟩ ⟨by decide, by decide⟩ ⟨by decide, by decide⟩ (As := [.int r1]) (n := 1) rfl hl.1 rfl (Nat.le_of_ble_eq_true rfl) dM_plain_7 ?_
    refine lv_if_eq (pc := 10) (tgt := 19) hx hb dM_plain_10 (by decide) (fun hc => ?_) (fun hc => ?_)
    · replace hM := it_t hc hM
      refine lv_iload_n (pc := 19) hx hb dM_plain_19 rfl (lv_at hl 1 rfl) ?_
      obtain rfl := sm_i hM
      exact x_retS (pc := 20) C.1 rfl dM_plain_20
    · replace hM := it_f hc hM
      refine lv_iinc (pc := 13) (v := x2 + (1 : Int32)) (lv' := [(2, .int (x2 + (1 : Int32))), (0, .ref (h 0))]) hx hb dM_plain_13 hl (k := 1) rfl rfl (by decide) rfl (fun ls hl => ?_)
      refine lv_goto (pc := 16) (tgt := 2) hx hb dM_plain_16 (by decide) ?_
      exact hrec2 _ _ hM hW _ (lv_sub hl [1, 0] rfl)
def M_plain (N : Nat) (x1 : Int32) (σ : MS) : Option Int32 :=
  M_plain_2 N  N x1 σ
set_option maxHeartbeats 4000000 in
set_option maxRecDepth 100000 in
theorem bM_plain_0 (N : Nat)  {r : Int32} (C : CxM p s m args meth c cM_plain 3 (some .int) D dA A) (x1 : Int32) (σ : MS) (hM : M_plain N  x1 σ = some r) (hW : WdM D dA h A s σ s.heap []) (ls : Array Slot) (hl : lv_has ls 3 [(0, .ref (h 0)), (1, .int x1)]) : W p l e rm_plain s m args below meth c s.heap [] 0 0 (MQ below (QS (some (.int r))) args s 0 0 (fun _ => False)) (F0 m 0 ls []) := by
  have hx := C.1.1
  have hb := C.1.2.1
  have hown := C.1.2.2.2.2.1
  have hT := C.1.2.2.2.2.2.1
  unfold M_plain at hM
  refine lv_iload_n (pc := 0) hx hb dM_plain_0 rfl (lv_at hl 1 rfl) ?_
  refine lv_istore_n (pc := 1) (lv' := [(2, .int x1), (0, .ref (h 0)), (1, .int x1)]) hx hb dM_plain_1 rfl hl (by decide) rfl (fun ls hl => ?_)
  exact bM_plain_2 N  C  N _ _ hM hW _ (lv_sub hl [1, 0] rfl)
theorem kM_plain (l : Launch) (D : va_G) (dA : Nat → ClassId) (h : Nat → Nat) (N : Nat) (x1 : Int32) (σ : MS) {r : Int32} (hM : M_plain N x1 σ = some r) : KR l D dA yM_plain cM_plain 3 (some .int) rm_plain h σ [.int x1] (some (.int r)) := x_enterR rfl (Nat.le_of_ble_eq_true rfl) (fun p e s m args below meth c A C hW ls hl => bM_plain_0 N C x1 σ hM hW ls hl)
def M_quote_59 (N : Nat)  (σ : MS) : Option (Int32 × MS) :=
  some ((0 : Int32), σ)
set_option maxHeartbeats 4000000 in
set_option maxRecDepth 100000 in
theorem bM_quote_59 (N : Nat)  {r : Int32} {σ' : MS} (C : CxM p s m args meth c cM_quote 3 none D dA A)  (σ : MS) (hM : M_quote_59 N   σ = some (r, σ')) (H : Heap) (locs : List Loc) (hW : WdM D dA h A s σ H locs) (ls : Array Slot) (hl : lv_has ls 3 []) : W p l e rm_quote s m args below meth c H locs 0 0 (MQ below (QM D dA h A σ' none) args s 0 0 A) (F0 m 59 ls []) := by
  have hx := C.1.1
  have hb := C.1.2.1
  have hown := C.1.2.2.2.2.1
  have hT := C.1.2.2.2.2.2.1
  unfold M_quote_59 at hM
  obtain ⟨rfl, rfl⟩ := sm_p hM
  exact x_retMv (pc := 59) C rfl hW dM_quote_59
def M_quote_44 (N : Nat) (x1 : Int32) (x2 : Int32) (σ : MS) : Option (Int32 × MS) :=
  bnd (sF σ 12 (x1 + (1 : Int32))) (fun σ1 => (if 0 ≤ x2 then M_quote_59 N  σ1 else cl (M_bad  σ1) (fun r2 σ3 => M_quote_59 N  σ3)))
set_option maxHeartbeats 4000000 in
set_option maxRecDepth 100000 in
theorem bM_quote_44 (N : Nat)  {r : Int32} {σ' : MS} (C : CxM p s m args meth c cM_quote 3 none D dA A) (x1 : Int32) (x2 : Int32) (σ : MS) (hM : M_quote_44 N  x1 x2 σ = some (r, σ')) (H : Heap) (locs : List Loc) (hW : WdM D dA h A s σ H locs) (ls : Array Slot) (hl : lv_has ls 3 [(0, .ref (h 0)), (1, .int x1), (2, .int x2)]) : W p l e rm_quote s m args below meth c H locs 0 0 (MQ below (QM D dA h A σ' none) args s 0 0 A) (F0 m 44 ls []) := by
  have hx := C.1.1
  have hb := C.1.2.1
  have hown := C.1.2.2.2.2.1
  have hT := C.1.2.2.2.2.2.1
  unfold M_quote_44 at hM
  refine lv_aload_n (pc := 44) hx hb dM_quote_44 rfl (lv_at hl 0 rfl) ?_
  refine lv_iload_n (pc := 45) hx hb dM_quote_45 rfl (lv_at hl 1 rfl) ?_
  refine lv_iconst (pc := 46) (v := 1) hx hb dM_quote_46 (by decide) ?_
  refine lv_iadd (pc := 47) hx hb dM_quote_47 ?_
  refine pM (pc := 48) (ty := .int) C hW 22 12 (by decide) q_1679 rfl rfl (by decide +kernel) rfl rfl (st_to dA h _ _) dM_quote_48 (fun H locs hW => ?_)
  obtain ⟨σ1, eσ1, hM⟩ := bnd_some hM
  rw [← eσ1] at hW
  refine lv_iload_n (pc := 51) hx hb dM_quote_51 rfl (lv_at hl 2 rfl) ?_
  refine lv_if_ge (pc := 52) (tgt := 59) hx hb dM_quote_52 (by decide) (fun hc => ?_) (fun hc => ?_)
  · replace hM := it_t hc hM
    exact bM_quote_59 N  C   _ hM _ _ hW _ (lv_sub hl [] rfl)
  · replace hM := it_f hc hM
    refine lv_aload_n (pc := 55) hx hb dM_quote_55 rfl (lv_at hl 0 rfl) ?_
    obtain ⟨r2, σ3, hr2, hM⟩ := cl_some hM
    refine x_callMv (pc := 56) C hW (kM_bad l D dA h  _ hr2) gM_bad_393 ⟨rfl, by decide, by decide, by decide +kernel⟩ ⟨rfl, rfl⟩ ⟨by decide, by decide⟩ ⟨by decide, by decide⟩ (As := []) (n := 0) rfl hl.1 rfl (Nat.le_of_ble_eq_true rfl) dM_quote_56 (fun H locs hW => ?_)
    exact bM_quote_59 N  C   _ hM _ _ hW _ (lv_sub hl [] rfl)
def M_quote_14 (N : Nat)  : Nat → Int32 → Int32 → MS → Option (Int32 × MS)
  | 0 => fun _ _ _ => none
  | n + 1 => fun x1 x2 σ => (if x2 < 0 then M_quote_44 N  x1 x2 σ else cr (M_charAt  x1 σ) (fun r1 => (if r1 = (34 : Int32) then M_quote_44 N  x1 x2 σ else cl (M_shown  x1 (34 : Int32) σ) (fun r2 σ3 => (M_quote_14 N  n) (σ3.1 12) r2 σ3))))
set_option maxHeartbeats 4000000 in
set_option maxRecDepth 100000 in
theorem bM_quote_14 (N : Nat)  {r : Int32} {σ' : MS} (C : CxM p s m args meth c cM_quote 3 none D dA A) : ∀ (n : Nat) (x1 : Int32) (x2 : Int32) (σ : MS), M_quote_14 N  n x1 x2 σ = some (r, σ') → ∀ (H : Heap) (locs : List Loc), WdM D dA h A s σ H locs → ∀ (ls : Array Slot), lv_has ls 3 [(0, .ref (h 0)), (1, .int x1), (2, .int x2)] → W p l e rm_quote s m args below meth c H locs 0 0 (MQ below (QM D dA h A σ' none) args s 0 0 A) (F0 m 14 ls []) := by
  have hx := C.1.1
  have hb := C.1.2.1
  have hown := C.1.2.2.2.2.1
  have hT := C.1.2.2.2.2.2.1
  intro n
  induction n with
  | zero => intro x1 x2 σ hM; cases hM
  | succ n hrec14 =>
    intro x1 x2 σ hM H locs hW ls hl
    rw [M_quote_14] at hM
    refine lv_iload_n (pc := 14) hx hb dM_quote_14 rfl (lv_at hl 2 rfl) ?_
    refine lv_if_lt (pc := 15) (tgt := 44) hx hb dM_quote_15 (by decide) (fun hc => ?_) (fun hc => ?_)
    · replace hM := it_t hc hM
      exact bM_quote_44 N  C  _ _ _ hM _ _ hW _ (lv_sub hl [0, 1, 2] rfl)
    · replace hM := it_f hc hM
      refine lv_aload_n (pc := 18) hx hb dM_quote_18 rfl (lv_at hl 0 rfl) ?_
      refine lv_iload_n (pc := 19) hx hb dM_quote_19 rfl (lv_at hl 1 rfl) ?_
      obtain ⟨r1, hr1, hM⟩ := cr_some hM
      refine x_callRi (pc := 20) C hW (kM_charAt l D dA h  x1 _ hr1) gM_charAt_368 ⟨rfl, by decide, by decide, by decide +kernel⟩ ⟨rfl, rfl⟩ ⟨by decide, by decide⟩ ⟨by decide, by decide⟩ (As := [.int x1]) (n := 1) rfl hl.1 rfl (Nat.le_of_ble_eq_true rfl) dM_quote_20 ?_
      refine lv_bipush (pc := 23) (v := 34) hx hb dM_quote_23 (by decide) ?_
      refine lv_icmp_eq (pc := 25) (tgt := 44) hx hb dM_quote_25 (by decide) (fun hc => ?_) (fun hc => ?_)
      · replace hM := it_t hc hM
        exact bM_quote_44 N  C  _ _ _ hM _ _ hW _ (lv_sub hl [0, 1, 2] rfl)
      · replace hM := it_f hc hM
        refine lv_aload_n (pc := 28) hx hb dM_quote_28 rfl (lv_at hl 0 rfl) ?_
        refine lv_iload_n (pc := 29) hx hb dM_quote_29 rfl (lv_at hl 1 rfl) ?_
        refine lv_bipush (pc := 30) (v := 34) hx hb dM_quote_30 (by decide) ?_
        obtain ⟨r2, σ3, hr2, hM⟩ := cl_some hM
        refine x_callMi (pc := 32) C hW (kM_shown l D dA h  x1 (34 : Int32) _ hr2) gM_shown_416 ⟨rfl, by decide, by decide, by decide +kernel⟩ ⟨rfl, rfl⟩ ⟨by decide, by decide⟩ ⟨by decide, by decide⟩ (As := [.int x1, .int (34 : Int32)]) (n := 2) rfl hl.1 rfl (Nat.le_of_ble_eq_true rfl) dM_quote_32 (fun H locs hW => ?_)
        refine lv_istore_n (pc := 35) (lv' := [(2, .int r2), (0, .ref (h 0)), (1, .int x1)]) hx hb dM_quote_35 rfl hl (by decide) rfl (fun ls hl => ?_)
        refine lv_aload_n (pc := 36) hx hb dM_quote_36 rfl (lv_at hl 1 rfl) ?_
        refine gM (pc := 37) C hW 22 (by decide) q_1679 rfl rfl dM_quote_37 ?_
        refine lv_istore_n (pc := 40) (lv' := [(1, .int (σ3.1 12)), (2, .int r2), (0, .ref (h 0))]) hx hb dM_quote_40 rfl hl (by decide) rfl (fun ls hl => ?_)
        refine lv_goto (pc := 41) (tgt := 14) hx hb dM_quote_41 (by decide) ?_
        exact hrec14 _ _ _ hM _ _ hW _ (lv_sub hl [2, 0, 1] rfl)
def M_quote (N : Nat)  (σ : MS) : Option (Int32 × MS) :=
  bnd (sF σ 10 (4 : Int32)) (fun σ1 => M_quote_14 N  N ((σ1.1 9) + (1 : Int32)) (0 : Int32) σ1)
set_option maxHeartbeats 4000000 in
set_option maxRecDepth 100000 in
theorem bM_quote_0 (N : Nat)  {r : Int32} {σ' : MS} (C : CxM p s m args meth c cM_quote 3 none D dA A)  (σ : MS) (hM : M_quote N   σ = some (r, σ')) (H : Heap) (locs : List Loc) (hW : WdM D dA h A s σ H locs) (ls : Array Slot) (hl : lv_has ls 3 [(0, .ref (h 0))]) : W p l e rm_quote s m args below meth c H locs 0 0 (MQ below (QM D dA h A σ' none) args s 0 0 A) (F0 m 0 ls []) := by
  have hx := C.1.1
  have hb := C.1.2.1
  have hown := C.1.2.2.2.2.1
  have hT := C.1.2.2.2.2.2.1
  unfold M_quote at hM
  refine lv_aload_n (pc := 0) hx hb dM_quote_0 rfl (lv_at hl 0 rfl) ?_
  refine lv_iconst (pc := 1) (v := 4) hx hb dM_quote_1 (by decide) ?_
  refine pM (pc := 2) (ty := .int) C hW 20 10 (by decide) q_1677 rfl rfl (by decide +kernel) rfl rfl (st_token dA h _ _) dM_quote_2 (fun H locs hW => ?_)
  obtain ⟨σ1, eσ1, hM⟩ := bnd_some hM
  rw [← eσ1] at hW
  refine lv_aload_n (pc := 5) hx hb dM_quote_5 rfl (lv_at hl 0 rfl) ?_
  refine gM (pc := 6) C hW 19 (by decide) q_1676 rfl rfl dM_quote_6 ?_
  refine lv_iconst (pc := 9) (v := 1) hx hb dM_quote_9 (by decide) ?_
  refine lv_iadd (pc := 10) hx hb dM_quote_10 ?_
  refine lv_istore_n (pc := 11) (lv' := [(1, .int ((σ1.1 9) + (1 : Int32))), (0, .ref (h 0))]) hx hb dM_quote_11 rfl hl (by decide) rfl (fun ls hl => ?_)
  refine lv_iconst (pc := 12) (v := 0) hx hb dM_quote_12 (by decide) ?_
  refine lv_istore_n (pc := 13) (lv' := [(2, .int (0 : Int32)), (1, .int ((σ1.1 9) + (1 : Int32))), (0, .ref (h 0))]) hx hb dM_quote_13 rfl hl (by decide) rfl (fun ls hl => ?_)
  exact bM_quote_14 N  C  N _ _ _ hM _ _ hW _ (lv_sub hl [2, 1, 0] rfl)
theorem kM_quote (l : Launch) (D : va_G) (dA : Nat → ClassId) (h : Nat → Nat) (N : Nat)  (σ : MS) {r : Int32} {σ' : MS} (hM : M_quote N  σ = some (r, σ')) : KM l D dA yM_quote cM_quote 3 none rm_quote h σ [] none σ' := x_enterM rfl (Nat.le_of_ble_eq_true rfl) (fun p e s m args below meth c A C hW ls hl => bM_quote_0 N C  σ hM s.heap [] hW ls hl)
def M_scan_26 (N : Nat) (rec0 : MS → Option (Int32 × MS))  (σ : MS) : Option (Int32 × MS) :=
  bnd (sF σ 9 ((σ.1 9) + (1 : Int32))) (fun σ1 => rec0 σ1)
set_option maxHeartbeats 4000000 in
set_option maxRecDepth 100000 in
theorem bM_scan_26 (N : Nat) (rec0 : MS → Option (Int32 × MS)) {r : Int32} {σ' : MS} (C : CxM p s m args meth c cM_scan 3 none D dA A) (hrec0 : ∀  (σ : MS), rec0  σ = some (r, σ') → ∀ (H : Heap) (locs : List Loc), WdM D dA h A s σ H locs → ∀ (ls : Array Slot), lv_has ls 3 [(0, .ref (h 0))] → W p l e rm_scan s m args below meth c H locs 0 0 (MQ below (QM D dA h A σ' none) args s 0 0 A) (F0 m 0 ls []))  (σ : MS) (hM : M_scan_26 N rec0  σ = some (r, σ')) (H : Heap) (locs : List Loc) (hW : WdM D dA h A s σ H locs) (ls : Array Slot) (hl : lv_has ls 3 [(0, .ref (h 0))]) : W p l e rm_scan s m args below meth c H locs 0 0 (MQ below (QM D dA h A σ' none) args s 0 0 A) (F0 m 26 ls []) := by
  have hx := C.1.1
  have hb := C.1.2.1
  have hown := C.1.2.2.2.2.1
  have hT := C.1.2.2.2.2.2.1
  unfold M_scan_26 at hM
  refine lv_aload_n (pc := 26) hx hb dM_scan_26 rfl (lv_at hl 0 rfl) ?_
  refine lv_dup (pc := 27) hx hb dM_scan_27 rfl ?_
  refine gM (pc := 28) C hW 19 (by decide) q_1676 rfl rfl dM_scan_28 ?_
  refine lv_iconst (pc := 31) (v := 1) hx hb dM_scan_31 (by decide) ?_
  refine lv_iadd (pc := 32) hx hb dM_scan_32 ?_
  refine pM (pc := 33) (ty := .int) C hW 19 9 (by decide) q_1676 rfl rfl (by decide +kernel) rfl rfl (st_at dA h _ _) dM_scan_33 (fun H locs hW => ?_)
  obtain ⟨σ1, eσ1, hM⟩ := bnd_some hM
  rw [← eσ1] at hW
  refine lv_goto (pc := 36) (tgt := 0) hx hb dM_scan_36 (by decide) ?_
  exact hrec0  _ hM _ _ hW _ (lv_sub hl [0] rfl)
def M_scan_348 (N : Nat)  (σ : MS) : Option (Int32 × MS) :=
  bnd (sF σ 9 (σ.1 12)) (fun σ1 => some ((0 : Int32), σ1))
set_option maxHeartbeats 4000000 in
set_option maxRecDepth 100000 in
theorem bM_scan_348 (N : Nat)  {r : Int32} {σ' : MS} (C : CxM p s m args meth c cM_scan 3 none D dA A)  (σ : MS) (hM : M_scan_348 N   σ = some (r, σ')) (H : Heap) (locs : List Loc) (hW : WdM D dA h A s σ H locs) (ls : Array Slot) (hl : lv_has ls 3 [(0, .ref (h 0))]) : W p l e rm_scan s m args below meth c H locs 0 0 (MQ below (QM D dA h A σ' none) args s 0 0 A) (F0 m 348 ls []) := by
  have hx := C.1.1
  have hb := C.1.2.1
  have hown := C.1.2.2.2.2.1
  have hT := C.1.2.2.2.2.2.1
  unfold M_scan_348 at hM
  refine lv_aload_n (pc := 348) hx hb dM_scan_348 rfl (lv_at hl 0 rfl) ?_
  refine lv_aload_n (pc := 349) hx hb dM_scan_349 rfl (lv_at hl 0 rfl) ?_
  refine gM (pc := 350) C hW 22 (by decide) q_1679 rfl rfl dM_scan_350 ?_
  refine pM (pc := 353) (ty := .int) C hW 19 9 (by decide) q_1676 rfl rfl (by decide +kernel) rfl rfl (st_at dA h _ _) dM_scan_353 (fun H locs hW => ?_)
  obtain ⟨σ1, eσ1, hM⟩ := bnd_some hM
  rw [← eσ1] at hW
  obtain ⟨rfl, rfl⟩ := sm_p hM
  exact x_retMv (pc := 356) C rfl hW dM_scan_356
def M_scan_78 (N : Nat)  (σ : MS) : Option (Int32 × MS) :=
  bnd (sF σ 10 (0 : Int32)) (fun σ1 => bnd (sF σ1 12 (σ1.1 9)) (fun σ2 => M_scan_348 N  σ2))
set_option maxHeartbeats 4000000 in
set_option maxRecDepth 100000 in
theorem bM_scan_78 (N : Nat)  {r : Int32} {σ' : MS} (C : CxM p s m args meth c cM_scan 3 none D dA A)  (σ : MS) (hM : M_scan_78 N   σ = some (r, σ')) (H : Heap) (locs : List Loc) (hW : WdM D dA h A s σ H locs) (ls : Array Slot) (hl : lv_has ls 3 [(0, .ref (h 0))]) : W p l e rm_scan s m args below meth c H locs 0 0 (MQ below (QM D dA h A σ' none) args s 0 0 A) (F0 m 78 ls []) := by
  have hx := C.1.1
  have hb := C.1.2.1
  have hown := C.1.2.2.2.2.1
  have hT := C.1.2.2.2.2.2.1
  unfold M_scan_78 at hM
  refine lv_aload_n (pc := 78) hx hb dM_scan_78 rfl (lv_at hl 0 rfl) ?_
  refine lv_iconst (pc := 79) (v := 0) hx hb dM_scan_79 (by decide) ?_
  refine pM (pc := 80) (ty := .int) C hW 20 10 (by decide) q_1677 rfl rfl (by decide +kernel) rfl rfl (st_token dA h _ _) dM_scan_80 (fun H locs hW => ?_)
  obtain ⟨σ1, eσ1, hM⟩ := bnd_some hM
  rw [← eσ1] at hW
  refine lv_aload_n (pc := 83) hx hb dM_scan_83 rfl (lv_at hl 0 rfl) ?_
  refine lv_aload_n (pc := 84) hx hb dM_scan_84 rfl (lv_at hl 0 rfl) ?_
  refine gM (pc := 85) C hW 19 (by decide) q_1676 rfl rfl dM_scan_85 ?_
  refine pM (pc := 88) (ty := .int) C hW 22 12 (by decide) q_1679 rfl rfl (by decide +kernel) rfl rfl (st_to dA h _ _) dM_scan_88 (fun H locs hW => ?_)
  obtain ⟨σ2, eσ2, hM⟩ := bnd_some hM
  rw [← eσ2] at hW
  refine lv_goto (pc := 91) (tgt := 348) hx hb dM_scan_91 (by decide) ?_
  exact bM_scan_348 N  C   _ hM _ _ hW _ (lv_sub hl [0] rfl)
def M_scan_217 (N : Nat) (x1 : Int32) (t1 : Int32) (σ : MS) : Option (Int32 × MS) :=
  bnd (sF σ 10 t1) (fun σ1 => bnd (sF σ1 12 ((σ1.1 9) + (2 : Int32))) (fun σ2 => cr (M_charAt  ((σ2.1 9) + (1 : Int32)) σ2) (fun r3 => (if r3 = x1 then M_scan_348 N  σ2 else cl (M_bad  σ2) (fun r4 σ5 => M_scan_348 N  σ5)))))
set_option maxHeartbeats 4000000 in
set_option maxRecDepth 100000 in
theorem bM_scan_217 (N : Nat)  {r : Int32} {σ' : MS} (C : CxM p s m args meth c cM_scan 3 none D dA A) (x1 : Int32) (t1 : Int32) (σ : MS) (hM : M_scan_217 N  x1 t1 σ = some (r, σ')) (H : Heap) (locs : List Loc) (hW : WdM D dA h A s σ H locs) (ls : Array Slot) (hl : lv_has ls 3 [(0, .ref (h 0)), (1, .int x1)]) : W p l e rm_scan s m args below meth c H locs 0 0 (MQ below (QM D dA h A σ' none) args s 0 0 A) (F0 m 217 ls [.int t1, .ref (h 0)]) := by
  have hx := C.1.1
  have hb := C.1.2.1
  have hown := C.1.2.2.2.2.1
  have hT := C.1.2.2.2.2.2.1
  unfold M_scan_217 at hM
  refine pM (pc := 217) (ty := .int) C hW 20 10 (by decide) q_1677 rfl rfl (by decide +kernel) rfl rfl (st_token dA h _ _) dM_scan_217 (fun H locs hW => ?_)
  obtain ⟨σ1, eσ1, hM⟩ := bnd_some hM
  rw [← eσ1] at hW
  refine lv_aload_n (pc := 220) hx hb dM_scan_220 rfl (lv_at hl 0 rfl) ?_
  refine lv_aload_n (pc := 221) hx hb dM_scan_221 rfl (lv_at hl 0 rfl) ?_
  refine gM (pc := 222) C hW 19 (by decide) q_1676 rfl rfl dM_scan_222 ?_
  refine lv_iconst (pc := 225) (v := 2) hx hb dM_scan_225 (by decide) ?_
  refine lv_iadd (pc := 226) hx hb dM_scan_226 ?_
  refine pM (pc := 227) (ty := .int) C hW 22 12 (by decide) q_1679 rfl rfl (by decide +kernel) rfl rfl (st_to dA h _ _) dM_scan_227 (fun H locs hW => ?_)
  obtain ⟨σ2, eσ2, hM⟩ := bnd_some hM
  rw [← eσ2] at hW
  refine lv_aload_n (pc := 230) hx hb dM_scan_230 rfl (lv_at hl 0 rfl) ?_
  refine lv_aload_n (pc := 231) hx hb dM_scan_231 rfl (lv_at hl 0 rfl) ?_
  refine gM (pc := 232) C hW 19 (by decide) q_1676 rfl rfl dM_scan_232 ?_
  refine lv_iconst (pc := 235) (v := 1) hx hb dM_scan_235 (by decide) ?_
  refine lv_iadd (pc := 236) hx hb dM_scan_236 ?_
  obtain ⟨r3, hr3, hM⟩ := cr_some hM
  refine x_callRi (pc := 237) C hW (kM_charAt l D dA h  ((σ2.1 9) + (1 : Int32)) _ hr3) gM_charAt_368 ⟨rfl, by decide, by decide, by decide +kernel⟩ ⟨rfl, rfl⟩ ⟨by decide, by decide⟩ ⟨by decide, by decide⟩ (As := [.int ((σ2.1 9) + (1 : Int32))]) (n := 1) rfl hl.1 rfl (Nat.le_of_ble_eq_true rfl) dM_scan_237 ?_
  refine lv_iload_n (pc := 240) hx hb dM_scan_240 rfl (lv_at hl 1 rfl) ?_
  refine lv_icmp_eq (pc := 241) (tgt := 348) hx hb dM_scan_241 (by decide) (fun hc => ?_) (fun hc => ?_)
  · replace hM := it_t hc hM
    exact bM_scan_348 N  C   _ hM _ _ hW _ (lv_sub hl [0] rfl)
  · replace hM := it_f hc hM
    refine lv_aload_n (pc := 244) hx hb dM_scan_244 rfl (lv_at hl 0 rfl) ?_
    obtain ⟨r4, σ5, hr4, hM⟩ := cl_some hM
    refine x_callMv (pc := 245) C hW (kM_bad l D dA h  _ hr4) gM_bad_393 ⟨rfl, by decide, by decide, by decide +kernel⟩ ⟨rfl, rfl⟩ ⟨by decide, by decide⟩ ⟨by decide, by decide⟩ (As := []) (n := 0) rfl hl.1 rfl (Nat.le_of_ble_eq_true rfl) dM_scan_245 (fun H locs hW => ?_)
    refine lv_goto (pc := 248) (tgt := 348) hx hb dM_scan_248 (by decide) ?_
    exact bM_scan_348 N  C   _ hM _ _ hW _ (lv_sub hl [0] rfl)
def M_scan_203 (N : Nat) (x1 : Int32) (σ : MS) : Option (Int32 × MS) :=
  (if x1 = (60 : Int32) then M_scan_217 N  x1 (6 : Int32) σ else M_scan_217 N  x1 (7 : Int32) σ)
set_option maxHeartbeats 4000000 in
set_option maxRecDepth 100000 in
theorem bM_scan_203 (N : Nat)  {r : Int32} {σ' : MS} (C : CxM p s m args meth c cM_scan 3 none D dA A) (x1 : Int32) (σ : MS) (hM : M_scan_203 N  x1 σ = some (r, σ')) (H : Heap) (locs : List Loc) (hW : WdM D dA h A s σ H locs) (ls : Array Slot) (hl : lv_has ls 3 [(0, .ref (h 0)), (1, .int x1)]) : W p l e rm_scan s m args below meth c H locs 0 0 (MQ below (QM D dA h A σ' none) args s 0 0 A) (F0 m 203 ls []) := by
  have hx := C.1.1
  have hb := C.1.2.1
  have hown := C.1.2.2.2.2.1
  have hT := C.1.2.2.2.2.2.1
  unfold M_scan_203 at hM
  refine lv_aload_n (pc := 203) hx hb dM_scan_203 rfl (lv_at hl 0 rfl) ?_
  refine lv_iload_n (pc := 204) hx hb dM_scan_204 rfl (lv_at hl 1 rfl) ?_
  refine lv_bipush (pc := 205) (v := 60) hx hb dM_scan_205 (by decide) ?_
  refine lv_icmp_ne (pc := 207) (tgt := 215) hx hb dM_scan_207 (by decide) (fun hc => ?_) (fun hc => ?_)
  · replace hM := it_f hc hM
    refine lv_bipush (pc := 215) (v := 7) hx hb dM_scan_215 (by decide) ?_
    exact bM_scan_217 N  C  _ _ _ hM _ _ hW _ (lv_sub hl [0, 1] rfl)
  · replace hM := it_t hc hM
    refine lv_bipush (pc := 210) (v := 6) hx hb dM_scan_210 (by decide) ?_
    refine lv_goto (pc := 212) (tgt := 217) hx hb dM_scan_212 (by decide) ?_
    exact bM_scan_217 N  C  _ _ _ hM _ _ hW _ (lv_sub hl [0, 1] rfl)
def M_scan_334 (N : Nat) (x1 : Int32) (t0 : Int32) (σ : MS) : Option (Int32 × MS) :=
  bnd (sF σ 10 x1) (fun σ1 => (if t0 = 0 then cl (M_bad  σ1) (fun r2 σ3 => M_scan_348 N  σ3) else M_scan_348 N  σ1))
set_option maxHeartbeats 4000000 in
set_option maxRecDepth 100000 in
theorem bM_scan_334 (N : Nat)  {r : Int32} {σ' : MS} (C : CxM p s m args meth c cM_scan 3 none D dA A) (x1 : Int32) (t0 : Int32) (σ : MS) (hM : M_scan_334 N  x1 t0 σ = some (r, σ')) (H : Heap) (locs : List Loc) (hW : WdM D dA h A s σ H locs) (ls : Array Slot) (hl : lv_has ls 3 [(0, .ref (h 0)), (1, .int x1)]) : W p l e rm_scan s m args below meth c H locs 0 0 (MQ below (QM D dA h A σ' none) args s 0 0 A) (F0 m 334 ls [.int t0]) := by
  have hx := C.1.1
  have hb := C.1.2.1
  have hown := C.1.2.2.2.2.1
  have hT := C.1.2.2.2.2.2.1
  unfold M_scan_334 at hM
  refine lv_istore_n (pc := 334) (lv' := [(2, .int t0), (0, .ref (h 0)), (1, .int x1)]) hx hb dM_scan_334 rfl hl (by decide) rfl (fun ls hl => ?_)
  refine lv_aload_n (pc := 335) hx hb dM_scan_335 rfl (lv_at hl 1 rfl) ?_
  refine lv_iload_n (pc := 336) hx hb dM_scan_336 rfl (lv_at hl 2 rfl) ?_
  refine pM (pc := 337) (ty := .int) C hW 20 10 (by decide) q_1677 rfl rfl (by decide +kernel) rfl rfl (st_token dA h _ _) dM_scan_337 (fun H locs hW => ?_)
  obtain ⟨σ1, eσ1, hM⟩ := bnd_some hM
  rw [← eσ1] at hW
  refine lv_iload_n (pc := 340) hx hb dM_scan_340 rfl (lv_at hl 0 rfl) ?_
  refine lv_if_ne (pc := 341) (tgt := 348) hx hb dM_scan_341 (by decide) (fun hc => ?_) (fun hc => ?_)
  · replace hM := it_f hc hM
    exact bM_scan_348 N  C   _ hM _ _ hW _ (lv_sub hl [1] rfl)
  · replace hM := it_t hc hM
    refine lv_aload_n (pc := 344) hx hb dM_scan_344 rfl (lv_at hl 1 rfl) ?_
    obtain ⟨r2, σ3, hr2, hM⟩ := cl_some hM
    refine x_callMv (pc := 345) C hW (kM_bad l D dA h  _ hr2) gM_bad_393 ⟨rfl, by decide, by decide, by decide +kernel⟩ ⟨rfl, rfl⟩ ⟨by decide, by decide⟩ ⟨by decide, by decide⟩ (As := []) (n := 0) rfl hl.1 rfl (Nat.le_of_ble_eq_true rfl) dM_scan_345 (fun H locs hW => ?_)
    exact bM_scan_348 N  C   _ hM _ _ hW _ (lv_sub hl [1] rfl)
def M_scan_329 (N : Nat) (x1 : Int32) (σ : MS) : Option (Int32 × MS) :=
  M_scan_334 N  x1 (1 : Int32) σ
set_option maxHeartbeats 4000000 in
set_option maxRecDepth 100000 in
theorem bM_scan_329 (N : Nat)  {r : Int32} {σ' : MS} (C : CxM p s m args meth c cM_scan 3 none D dA A) (x1 : Int32) (σ : MS) (hM : M_scan_329 N  x1 σ = some (r, σ')) (H : Heap) (locs : List Loc) (hW : WdM D dA h A s σ H locs) (ls : Array Slot) (hl : lv_has ls 3 [(0, .ref (h 0)), (1, .int x1)]) : W p l e rm_scan s m args below meth c H locs 0 0 (MQ below (QM D dA h A σ' none) args s 0 0 A) (F0 m 329 ls []) := by
  have hx := C.1.1
  have hb := C.1.2.1
  have hown := C.1.2.2.2.2.1
  have hT := C.1.2.2.2.2.2.1
  unfold M_scan_329 at hM
  refine lv_iconst (pc := 329) (v := 1) hx hb dM_scan_329 (by decide) ?_
  refine lv_goto (pc := 330) (tgt := 334) hx hb dM_scan_330 (by decide) ?_
  exact bM_scan_334 N  C  _ _ _ hM _ _ hW _ (lv_sub hl [0, 1] rfl)
def M_scan_0 (N : Nat)  : Nat → MS → Option (Int32 × MS)
  | 0 => fun _ => none
  | n + 1 => fun σ => cr (M_charAt  (σ.1 9) σ) (fun r1 => (if r1 = (9 : Int32) then M_scan_26 N (M_scan_0 N  n) σ else cr (M_charAt  (σ.1 9) σ) (fun r2 => (if r2 = (32 : Int32) then M_scan_26 N (M_scan_0 N  n) σ else bnd (sF σ 11 (σ.1 9)) (fun σ3 => cr (M_charAt  (σ3.1 9) σ3) (fun r4 => bnd (sF σ3 12 ((σ3.1 9) + (1 : Int32))) (fun σ5 => (if r4 = (10 : Int32) then M_scan_78 N  σ5 else (if r4 = (35 : Int32) then M_scan_78 N  σ5 else cr (M_isDigit  r4) (fun r6 => (if r6 = 0 then cr (M_isPlain  r4) (fun r7 => (if r7 = 0 then (if r4 = (39 : Int32) then cl (M_character  σ5) (fun r10 σ11 => M_scan_348 N  σ11) else (if r4 = (34 : Int32) then cl (M_quote N σ5) (fun r8 σ9 => M_scan_348 N  σ9) else (if r4 = (60 : Int32) then M_scan_203 N  r4 σ5 else (if r4 = (62 : Int32) then M_scan_203 N  r4 σ5 else (if r4 = (58 : Int32) then M_scan_329 N  r4 σ5 else (if r4 = (44 : Int32) then M_scan_329 N  r4 σ5 else (if r4 = (40 : Int32) then M_scan_329 N  r4 σ5 else (if r4 = (41 : Int32) then M_scan_329 N  r4 σ5 else (if r4 = (43 : Int32) then M_scan_329 N  r4 σ5 else (if r4 = (45 : Int32) then M_scan_329 N  r4 σ5 else (if r4 = (42 : Int32) then M_scan_329 N  r4 σ5 else (if r4 = (47 : Int32) then M_scan_329 N  r4 σ5 else (if r4 = (37 : Int32) then M_scan_329 N  r4 σ5 else (if r4 = (38 : Int32) then M_scan_329 N  r4 σ5 else (if r4 = (124 : Int32) then M_scan_329 N  r4 σ5 else (if r4 = (94 : Int32) then M_scan_329 N  r4 σ5 else (if r4 = (126 : Int32) then M_scan_329 N  r4 σ5 else M_scan_334 N  r4 (0 : Int32) σ5))))))))))))))))) else cr (M_plain N (σ5.1 9) σ5) (fun r12 => bnd (sF σ5 12 r12) (fun σ13 => bnd (sF σ13 10 (1 : Int32)) (fun σ14 => (if ((σ14.1 12) - (σ14.1 11)) ≤ (31 : Int32) then M_scan_348 N  σ14 else cl (M_bad  σ14) (fun r15 σ16 => M_scan_348 N  σ16))))))) else cr (M_plain N (σ5.1 9) σ5) (fun r17 => bnd (sF σ5 12 r17) (fun σ18 => cl (M_digits N σ18) (fun r19 σ20 => M_scan_348 N  σ20))))))))))))))
set_option maxHeartbeats 4000000 in
set_option maxRecDepth 100000 in
theorem bM_scan_0 (N : Nat)  {r : Int32} {σ' : MS} (C : CxM p s m args meth c cM_scan 3 none D dA A) : ∀ (n : Nat) (σ : MS), M_scan_0 N  n  σ = some (r, σ') → ∀ (H : Heap) (locs : List Loc), WdM D dA h A s σ H locs → ∀ (ls : Array Slot), lv_has ls 3 [(0, .ref (h 0))] → W p l e rm_scan s m args below meth c H locs 0 0 (MQ below (QM D dA h A σ' none) args s 0 0 A) (F0 m 0 ls []) := by
  have hx := C.1.1
  have hb := C.1.2.1
  have hown := C.1.2.2.2.2.1
  have hT := C.1.2.2.2.2.2.1
  intro n
  induction n with
  | zero => intro σ hM; cases hM
  | succ n hrec0 =>
    intro σ hM H locs hW ls hl
    rw [M_scan_0] at hM
    refine lv_aload_n (pc := 0) hx hb dM_scan_0 rfl (lv_at hl 0 rfl) ?_
    refine lv_aload_n (pc := 1) hx hb dM_scan_1 rfl (lv_at hl 0 rfl) ?_
    refine gM (pc := 2) C hW 19 (by decide) q_1676 rfl rfl dM_scan_2 ?_
    obtain ⟨r1, hr1, hM⟩ := cr_some hM
    refine x_callRi (pc := 5) C hW (kM_charAt l D dA h  (σ.1 9) _ hr1) gM_charAt_368 ⟨rfl, by decide, by decide, by decide +kernel⟩ ⟨rfl, rfl⟩ ⟨by decide, by decide⟩ ⟨by decide, by decide⟩ (As := [.int (σ.1 9)]) (n := 1) rfl hl.1 rfl (Nat.le_of_ble_eq_true rfl) dM_scan_5 ?_
    refine lv_bipush (pc := 8) (v := 9) hx hb dM_scan_8 (by decide) ?_
    refine lv_icmp_eq (pc := 10) (tgt := 26) hx hb dM_scan_10 (by decide) (fun hc => ?_) (fun hc => ?_)
    · replace hM := it_t hc hM
      exact bM_scan_26 N _ C hrec0  _ hM _ _ hW _ (lv_sub hl [0] rfl)
    · replace hM := it_f hc hM
      refine lv_aload_n (pc := 13) hx hb dM_scan_13 rfl (lv_at hl 0 rfl) ?_
      refine lv_aload_n (pc := 14) hx hb dM_scan_14 rfl (lv_at hl 0 rfl) ?_
      refine gM (pc := 15) C hW 19 (by decide) q_1676 rfl rfl dM_scan_15 ?_
      obtain ⟨r2, hr2, hM⟩ := cr_some hM
      refine x_callRi (pc := 18) C hW (kM_charAt l D dA h  (σ.1 9) _ hr2) gM_charAt_368 ⟨rfl, by decide, by decide, by decide +kernel⟩ ⟨rfl, rfl⟩ ⟨by decide, by decide⟩ ⟨by decide, by decide⟩ (As := [.int (σ.1 9)]) (n := 1) rfl hl.1 rfl (Nat.le_of_ble_eq_true rfl) dM_scan_18 ?_
      refine lv_bipush (pc := 21) (v := 32) hx hb dM_scan_21 (by decide) ?_
      refine lv_icmp_ne (pc := 23) (tgt := 39) hx hb dM_scan_23 (by decide) (fun hc => ?_) (fun hc => ?_)
      · replace hM := it_f hc hM
        refine lv_aload_n (pc := 39) hx hb dM_scan_39 rfl (lv_at hl 0 rfl) ?_
        refine lv_aload_n (pc := 40) hx hb dM_scan_40 rfl (lv_at hl 0 rfl) ?_
        refine gM (pc := 41) C hW 19 (by decide) q_1676 rfl rfl dM_scan_41 ?_
        refine pM (pc := 44) (ty := .int) C hW 21 11 (by decide) q_1678 rfl rfl (by decide +kernel) rfl rfl (st_from dA h _ _) dM_scan_44 (fun H locs hW => ?_)
        obtain ⟨σ3, eσ3, hM⟩ := bnd_some hM
        rw [← eσ3] at hW
        refine lv_aload_n (pc := 47) hx hb dM_scan_47 rfl (lv_at hl 0 rfl) ?_
        refine lv_aload_n (pc := 48) hx hb dM_scan_48 rfl (lv_at hl 0 rfl) ?_
        refine gM (pc := 49) C hW 19 (by decide) q_1676 rfl rfl dM_scan_49 ?_
        obtain ⟨r4, hr4, hM⟩ := cr_some hM
        refine x_callRi (pc := 52) C hW (kM_charAt l D dA h  (σ3.1 9) _ hr4) gM_charAt_368 ⟨rfl, by decide, by decide, by decide +kernel⟩ ⟨rfl, rfl⟩ ⟨by decide, by decide⟩ ⟨by decide, by decide⟩ (As := [.int (σ3.1 9)]) (n := 1) rfl hl.1 rfl (Nat.le_of_ble_eq_true rfl) dM_scan_52 ?_
        refine lv_istore_n (pc := 55) (lv' := [(1, .int r4), (0, .ref (h 0))]) hx hb dM_scan_55 rfl hl (by decide) rfl (fun ls hl => ?_)
        refine lv_aload_n (pc := 56) hx hb dM_scan_56 rfl (lv_at hl 1 rfl) ?_
        refine lv_aload_n (pc := 57) hx hb dM_scan_57 rfl (lv_at hl 1 rfl) ?_
        refine gM (pc := 58) C hW 19 (by decide) q_1676 rfl rfl dM_scan_58 ?_
        refine lv_iconst (pc := 61) (v := 1) hx hb dM_scan_61 (by decide) ?_
        refine lv_iadd (pc := 62) hx hb dM_scan_62 ?_
        refine pM (pc := 63) (ty := .int) C hW 22 12 (by decide) q_1679 rfl rfl (by decide +kernel) rfl rfl (st_to dA h _ _) dM_scan_63 (fun H locs hW => ?_)
        obtain ⟨σ5, eσ5, hM⟩ := bnd_some hM
        rw [← eσ5] at hW
        refine lv_iload_n (pc := 66) hx hb dM_scan_66 rfl (lv_at hl 0 rfl) ?_
        refine lv_bipush (pc := 67) (v := 10) hx hb dM_scan_67 (by decide) ?_
        refine lv_icmp_eq (pc := 69) (tgt := 78) hx hb dM_scan_69 (by decide) (fun hc => ?_) (fun hc => ?_)
        · replace hM := it_t hc hM
          exact bM_scan_78 N  C   _ hM _ _ hW _ (lv_sub hl [1] rfl)
        · replace hM := it_f hc hM
          refine lv_iload_n (pc := 72) hx hb dM_scan_72 rfl (lv_at hl 0 rfl) ?_
          refine lv_bipush (pc := 73) (v := 35) hx hb dM_scan_73 (by decide) ?_
          refine lv_icmp_ne (pc := 75) (tgt := 94) hx hb dM_scan_75 (by decide) (fun hc => ?_) (fun hc => ?_)
          · replace hM := it_f hc hM
            refine lv_iload_n (pc := 94) hx hb dM_scan_94 rfl (lv_at hl 0 rfl) ?_
            obtain ⟨r6, hr6, hM⟩ := cr_some hM
            refine x_callSi (pc := 95) C.1 (kM_isDigit l  r4 hr6) gM_isDigit_361 ⟨rfl, by decide, by decide, by decide +kernel⟩ ⟨rfl, rfl⟩ ⟨by decide, by decide⟩ ⟨by decide, by decide⟩ (As := [.int r4]) (n := 1) rfl hl.1 rfl (Nat.le_of_ble_eq_true rfl) dM_scan_95 ?_
            refine lv_if_eq (pc := 98) (tgt := 120) hx hb dM_scan_98 (by decide) (fun hc => ?_) (fun hc => ?_)
            · replace hM := it_t hc hM
              refine lv_iload_n (pc := 120) hx hb dM_scan_120 rfl (lv_at hl 0 rfl) ?_
              obtain ⟨r7, hr7, hM⟩ := cr_some hM
              refine x_callSi (pc := 121) C.1 (kM_isPlain l  r4 hr7) gM_isPlain_372 ⟨rfl, by decide, by decide, by decide +kernel⟩ ⟨rfl, rfl⟩ ⟨by decide, by decide⟩ ⟨by decide, by decide⟩ (As := [.int r4]) (n := 1) rfl hl.1 rfl (Nat.le_of_ble_eq_true rfl) dM_scan_121 ?_
              refine lv_if_eq (pc := 124) (tgt := 165) hx hb dM_scan_124 (by decide) (fun hc => ?_) (fun hc => ?_)
              · replace hM := it_t hc hM
                refine lv_iload_n (pc := 165) hx hb dM_scan_165 rfl (lv_at hl 0 rfl) ?_
                refine lv_bipush (pc := 166) (v := 39) hx hb dM_scan_166 (by decide) ?_
                refine lv_icmp_ne (pc := 168) (tgt := 178) hx hb dM_scan_168 (by decide) (fun hc => ?_) (fun hc => ?_)
                · replace hM := it_f hc hM
                  refine lv_iload_n (pc := 178) hx hb dM_scan_178 rfl (lv_at hl 0 rfl) ?_
                  refine lv_bipush (pc := 179) (v := 34) hx hb dM_scan_179 (by decide) ?_
                  refine lv_icmp_ne (pc := 181) (tgt := 191) hx hb dM_scan_181 (by decide) (fun hc => ?_) (fun hc => ?_)
                  · replace hM := it_f hc hM
                    refine lv_iload_n (pc := 191) hx hb dM_scan_191 rfl (lv_at hl 0 rfl) ?_
                    refine lv_bipush (pc := 192) (v := 60) hx hb dM_scan_192 (by decide) ?_
                    refine lv_icmp_eq (pc := 194) (tgt := 203) hx hb dM_scan_194 (by decide) (fun hc => ?_) (fun hc => ?_)
                    · replace hM := it_t hc hM
                      exact bM_scan_203 N  C  _ _ hM _ _ hW _ (lv_sub hl [1, 0] rfl)
                    · replace hM := it_f hc hM
                      refine lv_iload_n (pc := 197) hx hb dM_scan_197 rfl (lv_at hl 0 rfl) ?_
                      refine lv_bipush (pc := 198) (v := 62) hx hb dM_scan_198 (by decide) ?_
                      refine lv_icmp_ne (pc := 200) (tgt := 251) hx hb dM_scan_200 (by decide) (fun hc => ?_) (fun hc => ?_)
                      · replace hM := it_f hc hM
                        refine lv_iload_n (pc := 251) hx hb dM_scan_251 rfl (lv_at hl 0 rfl) ?_
                        refine lv_bipush (pc := 252) (v := 58) hx hb dM_scan_252 (by decide) ?_
                        refine lv_icmp_eq (pc := 254) (tgt := 329) hx hb dM_scan_254 (by decide) (fun hc => ?_) (fun hc => ?_)
                        · replace hM := it_t hc hM
                          exact bM_scan_329 N  C  _ _ hM _ _ hW _ (lv_sub hl [1, 0] rfl)
                        · replace hM := it_f hc hM
                          refine lv_iload_n (pc := 257) hx hb dM_scan_257 rfl (lv_at hl 0 rfl) ?_
                          refine lv_bipush (pc := 258) (v := 44) hx hb dM_scan_258 (by decide) ?_
                          refine lv_icmp_eq (pc := 260) (tgt := 329) hx hb dM_scan_260 (by decide) (fun hc => ?_) (fun hc => ?_)
                          · replace hM := it_t hc hM
                            exact bM_scan_329 N  C  _ _ hM _ _ hW _ (lv_sub hl [1, 0] rfl)
                          · replace hM := it_f hc hM
                            refine lv_iload_n (pc := 263) hx hb dM_scan_263 rfl (lv_at hl 0 rfl) ?_
                            refine lv_bipush (pc := 264) (v := 40) hx hb dM_scan_264 (by decide) ?_
                            refine lv_icmp_eq (pc := 266) (tgt := 329) hx hb dM_scan_266 (by decide) (fun hc => ?_) (fun hc => ?_)
                            · replace hM := it_t hc hM
                              exact bM_scan_329 N  C  _ _ hM _ _ hW _ (lv_sub hl [1, 0] rfl)
                            · replace hM := it_f hc hM
                              refine lv_iload_n (pc := 269) hx hb dM_scan_269 rfl (lv_at hl 0 rfl) ?_
                              refine lv_bipush (pc := 270) (v := 41) hx hb dM_scan_270 (by decide) ?_
                              refine lv_icmp_eq (pc := 272) (tgt := 329) hx hb dM_scan_272 (by decide) (fun hc => ?_) (fun hc => ?_)
                              · replace hM := it_t hc hM
                                exact bM_scan_329 N  C  _ _ hM _ _ hW _ (lv_sub hl [1, 0] rfl)
                              · replace hM := it_f hc hM
                                refine lv_iload_n (pc := 275) hx hb dM_scan_275 rfl (lv_at hl 0 rfl) ?_
                                refine lv_bipush (pc := 276) (v := 43) hx hb dM_scan_276 (by decide) ?_
                                refine lv_icmp_eq (pc := 278) (tgt := 329) hx hb dM_scan_278 (by decide) (fun hc => ?_) (fun hc => ?_)
                                · replace hM := it_t hc hM
                                  exact bM_scan_329 N  C  _ _ hM _ _ hW _ (lv_sub hl [1, 0] rfl)
                                · replace hM := it_f hc hM
                                  refine lv_iload_n (pc := 281) hx hb dM_scan_281 rfl (lv_at hl 0 rfl) ?_
                                  refine lv_bipush (pc := 282) (v := 45) hx hb dM_scan_282 (by decide) ?_
                                  refine lv_icmp_eq (pc := 284) (tgt := 329) hx hb dM_scan_284 (by decide) (fun hc => ?_) (fun hc => ?_)
                                  · replace hM := it_t hc hM
                                    exact bM_scan_329 N  C  _ _ hM _ _ hW _ (lv_sub hl [1, 0] rfl)
                                  · replace hM := it_f hc hM
                                    refine lv_iload_n (pc := 287) hx hb dM_scan_287 rfl (lv_at hl 0 rfl) ?_
                                    refine lv_bipush (pc := 288) (v := 42) hx hb dM_scan_288 (by decide) ?_
                                    refine lv_icmp_eq (pc := 290) (tgt := 329) hx hb dM_scan_290 (by decide) (fun hc => ?_) (fun hc => ?_)
                                    · replace hM := it_t hc hM
                                      exact bM_scan_329 N  C  _ _ hM _ _ hW _ (lv_sub hl [1, 0] rfl)
                                    · replace hM := it_f hc hM
                                      refine lv_iload_n (pc := 293) hx hb dM_scan_293 rfl (lv_at hl 0 rfl) ?_
                                      refine lv_bipush (pc := 294) (v := 47) hx hb dM_scan_294 (by decide) ?_
                                      refine lv_icmp_eq (pc := 296) (tgt := 329) hx hb dM_scan_296 (by decide) (fun hc => ?_) (fun hc => ?_)
                                      · replace hM := it_t hc hM
                                        exact bM_scan_329 N  C  _ _ hM _ _ hW _ (lv_sub hl [1, 0] rfl)
                                      · replace hM := it_f hc hM
                                        refine lv_iload_n (pc := 299) hx hb dM_scan_299 rfl (lv_at hl 0 rfl) ?_
                                        refine lv_bipush (pc := 300) (v := 37) hx hb dM_scan_300 (by decide) ?_
                                        refine lv_icmp_eq (pc := 302) (tgt := 329) hx hb dM_scan_302 (by decide) (fun hc => ?_) (fun hc => ?_)
                                        · replace hM := it_t hc hM
                                          exact bM_scan_329 N  C  _ _ hM _ _ hW _ (lv_sub hl [1, 0] rfl)
                                        · replace hM := it_f hc hM
                                          refine lv_iload_n (pc := 305) hx hb dM_scan_305 rfl (lv_at hl 0 rfl) ?_
                                          refine lv_bipush (pc := 306) (v := 38) hx hb dM_scan_306 (by decide) ?_
                                          refine lv_icmp_eq (pc := 308) (tgt := 329) hx hb dM_scan_308 (by decide) (fun hc => ?_) (fun hc => ?_)
                                          · replace hM := it_t hc hM
                                            exact bM_scan_329 N  C  _ _ hM _ _ hW _ (lv_sub hl [1, 0] rfl)
                                          · replace hM := it_f hc hM
                                            refine lv_iload_n (pc := 311) hx hb dM_scan_311 rfl (lv_at hl 0 rfl) ?_
                                            refine lv_bipush (pc := 312) (v := 124) hx hb dM_scan_312 (by decide) ?_
                                            refine lv_icmp_eq (pc := 314) (tgt := 329) hx hb dM_scan_314 (by decide) (fun hc => ?_) (fun hc => ?_)
                                            · replace hM := it_t hc hM
                                              exact bM_scan_329 N  C  _ _ hM _ _ hW _ (lv_sub hl [1, 0] rfl)
                                            · replace hM := it_f hc hM
                                              refine lv_iload_n (pc := 317) hx hb dM_scan_317 rfl (lv_at hl 0 rfl) ?_
                                              refine lv_bipush (pc := 318) (v := 94) hx hb dM_scan_318 (by decide) ?_
                                              refine lv_icmp_eq (pc := 320) (tgt := 329) hx hb dM_scan_320 (by decide) (fun hc => ?_) (fun hc => ?_)
                                              · replace hM := it_t hc hM
                                                exact bM_scan_329 N  C  _ _ hM _ _ hW _ (lv_sub hl [1, 0] rfl)
                                              · replace hM := it_f hc hM
                                                refine lv_iload_n (pc := 323) hx hb dM_scan_323 rfl (lv_at hl 0 rfl) ?_
                                                refine lv_bipush (pc := 324) (v := 126) hx hb dM_scan_324 (by decide) ?_
                                                refine lv_icmp_ne (pc := 326) (tgt := 333) hx hb dM_scan_326 (by decide) (fun hc => ?_) (fun hc => ?_)
                                                · replace hM := it_f hc hM
                                                  refine lv_iconst (pc := 333) (v := 0) hx hb dM_scan_333 (by decide) ?_
                                                  exact bM_scan_334 N  C  _ _ _ hM _ _ hW _ (lv_sub hl [1, 0] rfl)
                                                · replace hM := it_t hc hM
                                                  exact bM_scan_329 N  C  _ _ hM _ _ hW _ (lv_sub hl [1, 0] rfl)
                      · replace hM := it_t hc hM
                        exact bM_scan_203 N  C  _ _ hM _ _ hW _ (lv_sub hl [1, 0] rfl)
                  · replace hM := it_t hc hM
                    refine lv_aload_n (pc := 184) hx hb dM_scan_184 rfl (lv_at hl 1 rfl) ?_
                    obtain ⟨r8, σ9, hr8, hM⟩ := cl_some hM
                    refine x_callMv (pc := 185) C hW (kM_quote l D dA h N _ hr8) gM_quote_399 ⟨rfl, by decide, by decide, by decide +kernel⟩ ⟨rfl, rfl⟩ ⟨by decide, by decide⟩ ⟨by decide, by decide⟩ (As := []) (n := 0) rfl hl.1 rfl (Nat.le_of_ble_eq_true rfl) dM_scan_185 (fun H locs hW => ?_)
                    refine lv_goto (pc := 188) (tgt := 348) hx hb dM_scan_188 (by decide) ?_
                    exact bM_scan_348 N  C   _ hM _ _ hW _ (lv_sub hl [1] rfl)
                · replace hM := it_t hc hM
                  refine lv_aload_n (pc := 171) hx hb dM_scan_171 rfl (lv_at hl 1 rfl) ?_
                  obtain ⟨r10, σ11, hr10, hM⟩ := cl_some hM
                  refine x_callMv (pc := 172) C hW (kM_character l D dA h  _ hr10) gM_character_396 ⟨rfl, by decide, by decide, by decide +kernel⟩ ⟨rfl, rfl⟩ ⟨by decide, by decide⟩ ⟨by decide, by decide⟩ (As := []) (n := 0) rfl hl.1 rfl (Nat.le_of_ble_eq_true rfl) dM_scan_172 (fun H locs hW => ?_)
                  refine lv_goto (pc := 175) (tgt := 348) hx hb dM_scan_175 (by decide) ?_
                  exact bM_scan_348 N  C   _ hM _ _ hW _ (lv_sub hl [1] rfl)
              · replace hM := it_f hc hM
                refine lv_aload_n (pc := 127) hx hb dM_scan_127 rfl (lv_at hl 1 rfl) ?_
                refine lv_aload_n (pc := 128) hx hb dM_scan_128 rfl (lv_at hl 1 rfl) ?_
                refine lv_aload_n (pc := 129) hx hb dM_scan_129 rfl (lv_at hl 1 rfl) ?_
                refine gM (pc := 130) C hW 19 (by decide) q_1676 rfl rfl dM_scan_130 ?_
                obtain ⟨r12, hr12, hM⟩ := cr_some hM
                refine x_callRi (pc := 133) C hW (kM_plain l D dA h N (σ5.1 9) _ hr12) gM_plain_387 ⟨rfl, by decide, by decide, by decide +kernel⟩ ⟨rfl, rfl⟩ ⟨by decide, by decide⟩ ⟨by decide, by decide⟩ (As := [.int (σ5.1 9)]) (n := 1) rfl hl.1 rfl (Nat.le_of_ble_eq_true rfl) dM_scan_133 ?_
                refine pM (pc := 136) (ty := .int) C hW 22 12 (by decide) q_1679 rfl rfl (by decide +kernel) rfl rfl (st_to dA h _ _) dM_scan_136 (fun H locs hW => ?_)
                obtain ⟨σ13, eσ13, hM⟩ := bnd_some hM
                rw [← eσ13] at hW
                refine lv_aload_n (pc := 139) hx hb dM_scan_139 rfl (lv_at hl 1 rfl) ?_
                refine lv_iconst (pc := 140) (v := 1) hx hb dM_scan_140 (by decide) ?_
                refine pM (pc := 141) (ty := .int) C hW 20 10 (by decide) q_1677 rfl rfl (by decide +kernel) rfl rfl (st_token dA h _ _) dM_scan_141 (fun H locs hW => ?_)
                obtain ⟨σ14, eσ14, hM⟩ := bnd_some hM
                rw [← eσ14] at hW
                refine lv_aload_n (pc := 144) hx hb dM_scan_144 rfl (lv_at hl 1 rfl) ?_
                refine gM (pc := 145) C hW 22 (by decide) q_1679 rfl rfl dM_scan_145 ?_
                refine lv_aload_n (pc := 148) hx hb dM_scan_148 rfl (lv_at hl 1 rfl) ?_
                refine gM (pc := 149) C hW 21 (by decide) q_1678 rfl rfl dM_scan_149 ?_
                refine lv_isub (pc := 152) hx hb dM_scan_152 ?_
                refine lv_bipush (pc := 153) (v := 31) hx hb dM_scan_153 (by decide) ?_
                refine lv_icmp_le (pc := 155) (tgt := 348) hx hb dM_scan_155 (by decide) (fun hc => ?_) (fun hc => ?_)
                · replace hM := it_t hc hM
                  exact bM_scan_348 N  C   _ hM _ _ hW _ (lv_sub hl [1] rfl)
                · replace hM := it_f hc hM
                  refine lv_aload_n (pc := 158) hx hb dM_scan_158 rfl (lv_at hl 1 rfl) ?_
                  obtain ⟨r15, σ16, hr15, hM⟩ := cl_some hM
                  refine x_callMv (pc := 159) C hW (kM_bad l D dA h  _ hr15) gM_bad_393 ⟨rfl, by decide, by decide, by decide +kernel⟩ ⟨rfl, rfl⟩ ⟨by decide, by decide⟩ ⟨by decide, by decide⟩ (As := []) (n := 0) rfl hl.1 rfl (Nat.le_of_ble_eq_true rfl) dM_scan_159 (fun H locs hW => ?_)
                  refine lv_goto (pc := 162) (tgt := 348) hx hb dM_scan_162 (by decide) ?_
                  exact bM_scan_348 N  C   _ hM _ _ hW _ (lv_sub hl [1] rfl)
            · replace hM := it_f hc hM
              refine lv_aload_n (pc := 101) hx hb dM_scan_101 rfl (lv_at hl 1 rfl) ?_
              refine lv_aload_n (pc := 102) hx hb dM_scan_102 rfl (lv_at hl 1 rfl) ?_
              refine lv_aload_n (pc := 103) hx hb dM_scan_103 rfl (lv_at hl 1 rfl) ?_
              refine gM (pc := 104) C hW 19 (by decide) q_1676 rfl rfl dM_scan_104 ?_
              obtain ⟨r17, hr17, hM⟩ := cr_some hM
              refine x_callRi (pc := 107) C hW (kM_plain l D dA h N (σ5.1 9) _ hr17) gM_plain_387 ⟨rfl, by decide, by decide, by decide +kernel⟩ ⟨rfl, rfl⟩ ⟨by decide, by decide⟩ ⟨by decide, by decide⟩ (As := [.int (σ5.1 9)]) (n := 1) rfl hl.1 rfl (Nat.le_of_ble_eq_true rfl) dM_scan_107 ?_
              refine pM (pc := 110) (ty := .int) C hW 22 12 (by decide) q_1679 rfl rfl (by decide +kernel) rfl rfl (st_to dA h _ _) dM_scan_110 (fun H locs hW => ?_)
              obtain ⟨σ18, eσ18, hM⟩ := bnd_some hM
              rw [← eσ18] at hW
              refine lv_aload_n (pc := 113) hx hb dM_scan_113 rfl (lv_at hl 1 rfl) ?_
              obtain ⟨r19, σ20, hr19, hM⟩ := cl_some hM
              refine x_callMv (pc := 114) C hW (kM_digits l D dA h N _ hr19) gM_digits_390 ⟨rfl, by decide, by decide, by decide +kernel⟩ ⟨rfl, rfl⟩ ⟨by decide, by decide⟩ ⟨by decide, by decide⟩ (As := []) (n := 0) rfl hl.1 rfl (Nat.le_of_ble_eq_true rfl) dM_scan_114 (fun H locs hW => ?_)
              refine lv_goto (pc := 117) (tgt := 348) hx hb dM_scan_117 (by decide) ?_
              exact bM_scan_348 N  C   _ hM _ _ hW _ (lv_sub hl [1] rfl)
          · replace hM := it_t hc hM
            exact bM_scan_78 N  C   _ hM _ _ hW _ (lv_sub hl [1] rfl)
      · replace hM := it_t hc hM
        exact bM_scan_26 N _ C hrec0  _ hM _ _ hW _ (lv_sub hl [0] rfl)
def M_scan (N : Nat)  (σ : MS) : Option (Int32 × MS) := M_scan_0 N N  σ
theorem kM_scan (l : Launch) (D : va_G) (dA : Nat → ClassId) (h : Nat → Nat) (N : Nat)  (σ : MS) {r : Int32} {σ' : MS} (hM : M_scan N  σ = some (r, σ')) : KM l D dA yM_scan cM_scan 3 none rm_scan h σ [] none σ' := x_enterM rfl (Nat.le_of_ble_eq_true rfl) (fun p e s m args below meth c A C hW ls hl => bM_scan_0 N C N  σ hM s.heap [] hW ls hl)
def M_needs_30 (N : Nat) (t0 : Int32) (σ : MS) : Option (Int32 × MS) :=
  gd (isB t0) (some (t0, σ))
set_option maxHeartbeats 4000000 in
set_option maxRecDepth 100000 in
theorem bM_needs_30 (N : Nat)  {r : Int32} {σ' : MS} (C : CxM p s m args meth c cM_needs 2 (some .boolean) D dA A) (t0 : Int32) (σ : MS) (hM : M_needs_30 N  t0 σ = some (r, σ')) (H : Heap) (locs : List Loc) (hW : WdM D dA h A s σ H locs) (ls : Array Slot) (hl : lv_has ls 2 []) : W p l e rm_needs s m args below meth c H locs 0 0 (MQ below (QM D dA h A σ' (some (.int r))) args s 0 0 A) (F0 m 30 ls [.int t0]) := by
  have hx := C.1.1
  have hb := C.1.2.1
  have hown := C.1.2.2.2.2.1
  have hT := C.1.2.2.2.2.2.1
  unfold M_needs_30 at hM
  obtain ⟨hg1, hM⟩ := gd_some hM
  obtain ⟨rfl, rfl⟩ := sm_p hM
  exact x_retMz (pc := 30) C rfl (isB_n hg1) hW dM_needs_30
def M_needs_17 (N : Nat) (x1 : Int32) (σ : MS) : Option (Int32 × MS) :=
  (if (σ.1 10) = x1 then M_needs_30 N  (1 : Int32) σ else M_needs_30 N  (0 : Int32) σ)
set_option maxHeartbeats 4000000 in
set_option maxRecDepth 100000 in
theorem bM_needs_17 (N : Nat)  {r : Int32} {σ' : MS} (C : CxM p s m args meth c cM_needs 2 (some .boolean) D dA A) (x1 : Int32) (σ : MS) (hM : M_needs_17 N  x1 σ = some (r, σ')) (H : Heap) (locs : List Loc) (hW : WdM D dA h A s σ H locs) (ls : Array Slot) (hl : lv_has ls 2 [(0, .ref (h 0)), (1, .int x1)]) : W p l e rm_needs s m args below meth c H locs 0 0 (MQ below (QM D dA h A σ' (some (.int r))) args s 0 0 A) (F0 m 17 ls []) := by
  have hx := C.1.1
  have hb := C.1.2.1
  have hown := C.1.2.2.2.2.1
  have hT := C.1.2.2.2.2.2.1
  unfold M_needs_17 at hM
  refine lv_aload_n (pc := 17) hx hb dM_needs_17 rfl (lv_at hl 0 rfl) ?_
  refine gM (pc := 18) C hW 20 (by decide) q_1677 rfl rfl dM_needs_18 ?_
  refine lv_iload_n (pc := 21) hx hb dM_needs_21 rfl (lv_at hl 1 rfl) ?_
  refine lv_icmp_ne (pc := 22) (tgt := 29) hx hb dM_needs_22 (by decide) (fun hc => ?_) (fun hc => ?_)
  · replace hM := it_f hc hM
    refine lv_iconst (pc := 29) (v := 0) hx hb dM_needs_29 (by decide) ?_
    exact bM_needs_30 N  C  _ _ hM _ _ hW _ (lv_sub hl [] rfl)
  · replace hM := it_t hc hM
    refine lv_iconst (pc := 25) (v := 1) hx hb dM_needs_25 (by decide) ?_
    refine lv_goto (pc := 26) (tgt := 30) hx hb dM_needs_26 (by decide) ?_
    exact bM_needs_30 N  C  _ _ hM _ _ hW _ (lv_sub hl [] rfl)
def M_needs (N : Nat) (x1 : Int32) (σ : MS) : Option (Int32 × MS) :=
  cl (M_scan N σ) (fun r1 σ2 => (if (σ2.1 10) = x1 then M_needs_17 N  x1 σ2 else cl (M_blame  (1 : Int32) σ2) (fun r3 σ4 => M_needs_17 N  x1 σ4)))
set_option maxHeartbeats 4000000 in
set_option maxRecDepth 100000 in
theorem bM_needs_0 (N : Nat)  {r : Int32} {σ' : MS} (C : CxM p s m args meth c cM_needs 2 (some .boolean) D dA A) (x1 : Int32) (σ : MS) (hM : M_needs N  x1 σ = some (r, σ')) (H : Heap) (locs : List Loc) (hW : WdM D dA h A s σ H locs) (ls : Array Slot) (hl : lv_has ls 2 [(0, .ref (h 0)), (1, .int x1)]) : W p l e rm_needs s m args below meth c H locs 0 0 (MQ below (QM D dA h A σ' (some (.int r))) args s 0 0 A) (F0 m 0 ls []) := by
  have hx := C.1.1
  have hb := C.1.2.1
  have hown := C.1.2.2.2.2.1
  have hT := C.1.2.2.2.2.2.1
  unfold M_needs at hM
  refine lv_aload_n (pc := 0) hx hb dM_needs_0 rfl (lv_at hl 0 rfl) ?_
  obtain ⟨r1, σ2, hr1, hM⟩ := cl_some hM
  refine x_callMv (pc := 1) C hW (kM_scan l D dA h N _ hr1) gM_scan_426 ⟨rfl, by decide, by decide, by decide +kernel⟩ ⟨rfl, rfl⟩ ⟨by decide, by decide⟩ ⟨by decide, by decide⟩ (As := []) (n := 0) rfl hl.1 rfl (Nat.le_of_ble_eq_true rfl) dM_needs_1 (fun H locs hW => ?_)
  refine lv_aload_n (pc := 4) hx hb dM_needs_4 rfl (lv_at hl 0 rfl) ?_
  refine gM (pc := 5) C hW 20 (by decide) q_1677 rfl rfl dM_needs_5 ?_
  refine lv_iload_n (pc := 8) hx hb dM_needs_8 rfl (lv_at hl 1 rfl) ?_
  refine lv_icmp_eq (pc := 9) (tgt := 17) hx hb dM_needs_9 (by decide) (fun hc => ?_) (fun hc => ?_)
  · replace hM := it_t hc hM
    exact bM_needs_17 N  C  _ _ hM _ _ hW _ (lv_sub hl [0, 1] rfl)
  · replace hM := it_f hc hM
    refine lv_aload_n (pc := 12) hx hb dM_needs_12 rfl (lv_at hl 0 rfl) ?_
    refine lv_iconst (pc := 13) (v := 1) hx hb dM_needs_13 (by decide) ?_
    obtain ⟨r3, σ4, hr3, hM⟩ := cl_some hM
    refine x_callMv (pc := 14) C hW (kM_blame l D dA h  (1 : Int32) _ hr3) gM_blame_429 ⟨rfl, by decide, by decide, by decide +kernel⟩ ⟨rfl, rfl⟩ ⟨by decide, by decide⟩ ⟨by decide, by decide⟩ (As := [.int (1 : Int32)]) (n := 1) rfl hl.1 rfl (Nat.le_of_ble_eq_true rfl) dM_needs_14 (fun H locs hW => ?_)
    exact bM_needs_17 N  C  _ _ hM _ _ hW _ (lv_sub hl [0, 1] rfl)
theorem kM_needs (l : Launch) (D : va_G) (dA : Nat → ClassId) (h : Nat → Nat) (N : Nat) (x1 : Int32) (σ : MS) {r : Int32} {σ' : MS} (hM : M_needs N x1 σ = some (r, σ')) : KM l D dA yM_needs cM_needs 2 (some .boolean) rm_needs h σ [.int x1] (some (.int r)) σ' := x_enterM rfl (Nat.le_of_ble_eq_true rfl) (fun p e s m args below meth c A C hW ls hl => bM_needs_0 N C x1 σ hM s.heap [] hW ls hl)
def M_packed_60 (N : Nat)  (σ : MS) : Option Int64 :=
  some (0 : Int64)
set_option maxHeartbeats 4000000 in
set_option maxRecDepth 100000 in
theorem bM_packed_60 (N : Nat)  {r : Int64} (C : CxM p s m args meth c cM_packed 7 (some .long) D dA A)  (σ : MS) (hM : M_packed_60 N   σ = some r) (hW : WdM D dA h A s σ s.heap []) (ls : Array Slot) (hl : lv_has ls 7 []) : W p l e rm_packed s m args below meth c s.heap [] 0 0 (MQ below (QS (some (.long r))) args s 0 0 (fun _ => False)) (F0 m 60 ls []) := by
  have hx := C.1.1
  have hb := C.1.2.1
  have hown := C.1.2.2.2.2.1
  have hT := C.1.2.2.2.2.2.1
  unfold M_packed_60 at hM
  refine lv_lconst (pc := 60) (v := 0) hx hb dM_packed_60 (by decide) ?_
  obtain rfl := sm_i hM
  exact x_retRl (pc := 61) C.1 rfl dM_packed_61
def M_packed_102 (N : Nat) (rec17 : Int32 → Int64 → Int32 → MS → Option Int64) (x1 : Int32) (x5 : Int32) (t0 : Int64) (t1 : Int32) (σ : MS) : Option Int64 :=
  rec17 x1 (t0 ||| t1.toInt64) (x5 + (-1 : Int32)) σ
set_option maxHeartbeats 4000000 in
set_option maxRecDepth 100000 in
theorem bM_packed_102 (N : Nat) (rec17 : Int32 → Int64 → Int32 → MS → Option Int64) {r : Int64} (C : CxM p s m args meth c cM_packed 7 (some .long) D dA A) (hrec17 : ∀ (x1 : Int32) (z3 : Int64) (x5 : Int32) (σ : MS), rec17 x1 z3 x5 σ = some r → WdM D dA h A s σ s.heap [] → ∀ (ls : Array Slot), lv_has ls 7 [(0, .ref (h 0)), (1, .int x1), (3, .long z3), (5, .int x5)] → W p l e rm_packed s m args below meth c s.heap [] 0 0 (MQ below (QS (some (.long r))) args s 0 0 (fun _ => False)) (F0 m 17 ls [])) (x1 : Int32) (x5 : Int32) (t0 : Int64) (t1 : Int32) (σ : MS) (hM : M_packed_102 N rec17 x1 x5 t0 t1 σ = some r) (hW : WdM D dA h A s σ s.heap []) (ls : Array Slot) (hl : lv_has ls 7 [(0, .ref (h 0)), (1, .int x1), (5, .int x5)]) : W p l e rm_packed s m args below meth c s.heap [] 0 0 (MQ below (QS (some (.long r))) args s 0 0 (fun _ => False)) (F0 m 102 ls [.int t1, .long t0]) := by
  have hx := C.1.1
  have hb := C.1.2.1
  have hown := C.1.2.2.2.2.1
  have hT := C.1.2.2.2.2.2.1
  unfold M_packed_102 at hM
  refine lv_i2l (pc := 102) (v := t1.toInt64) hx hb dM_packed_102 rfl ?_
  refine lv_lor (pc := 103) hx hb dM_packed_103 ?_
  refine lv_lstore_n (pc := 104) (lv' := [(3, .long (t0 ||| t1.toInt64)), (0, .ref (h 0)), (1, .int x1), (5, .int x5)]) hx hb dM_packed_104 rfl hl (by decide) rfl (fun ls hl => ?_)
  refine lv_iinc (pc := 105) (v := x5 + (-1 : Int32)) (lv' := [(5, .int (x5 + (-1 : Int32))), (3, .long (t0 ||| t1.toInt64)), (0, .ref (h 0)), (1, .int x1)]) hx hb dM_packed_105 hl (k := 3) rfl rfl (by decide) rfl (fun ls hl => ?_)
  refine lv_goto (pc := 108) (tgt := 17) hx hb dM_packed_108 (by decide) ?_
  exact hrec17 _ _ _ _ hM hW _ (lv_sub hl [2, 3, 1, 0] rfl)
def M_packed_46 (N : Nat) (rec17 : Int32 → Int64 → Int32 → MS → Option Int64) (x1 : Int32) (z3 : Int64) (x5 : Int32) (x6 : Int32) (σ : MS) : Option Int64 :=
  (if x6 = (95 : Int32) then M_packed_60 N  σ else (if x6 = (36 : Int32) then M_packed_60 N  σ else (if x6 = (46 : Int32) then M_packed_102 N rec17 x1 x5 (z3 <<< ((6 : Int32).toInt64 &&& 63)) (37 : Int32) σ else cr (M_isDigit  x6) (fun r1 => (if r1 = 0 then M_packed_102 N rec17 x1 x5 (z3 <<< ((6 : Int32).toInt64 &&& 63)) (x6 - (96 : Int32)) σ else M_packed_102 N rec17 x1 x5 (z3 <<< ((6 : Int32).toInt64 &&& 63)) (((27 : Int32) + x6) - (48 : Int32)) σ)))))
set_option maxHeartbeats 4000000 in
set_option maxRecDepth 100000 in
theorem bM_packed_46 (N : Nat) (rec17 : Int32 → Int64 → Int32 → MS → Option Int64) {r : Int64} (C : CxM p s m args meth c cM_packed 7 (some .long) D dA A) (hrec17 : ∀ (x1 : Int32) (z3 : Int64) (x5 : Int32) (σ : MS), rec17 x1 z3 x5 σ = some r → WdM D dA h A s σ s.heap [] → ∀ (ls : Array Slot), lv_has ls 7 [(0, .ref (h 0)), (1, .int x1), (3, .long z3), (5, .int x5)] → W p l e rm_packed s m args below meth c s.heap [] 0 0 (MQ below (QS (some (.long r))) args s 0 0 (fun _ => False)) (F0 m 17 ls [])) (x1 : Int32) (z3 : Int64) (x5 : Int32) (x6 : Int32) (σ : MS) (hM : M_packed_46 N rec17 x1 z3 x5 x6 σ = some r) (hW : WdM D dA h A s σ s.heap []) (ls : Array Slot) (hl : lv_has ls 7 [(0, .ref (h 0)), (1, .int x1), (3, .long z3), (5, .int x5), (6, .int x6)]) : W p l e rm_packed s m args below meth c s.heap [] 0 0 (MQ below (QS (some (.long r))) args s 0 0 (fun _ => False)) (F0 m 46 ls []) := by
  have hx := C.1.1
  have hb := C.1.2.1
  have hown := C.1.2.2.2.2.1
  have hT := C.1.2.2.2.2.2.1
  unfold M_packed_46 at hM
  refine lv_iload (pc := 46) hx hb dM_packed_46 (lv_at hl 4 rfl) ?_
  refine lv_bipush (pc := 48) (v := 95) hx hb dM_packed_48 (by decide) ?_
  refine lv_icmp_eq (pc := 50) (tgt := 60) hx hb dM_packed_50 (by decide) (fun hc => ?_) (fun hc => ?_)
  · replace hM := it_t hc hM
    exact bM_packed_60 N  C   _ hM hW _ (lv_sub hl [] rfl)
  · replace hM := it_f hc hM
    refine lv_iload (pc := 53) hx hb dM_packed_53 (lv_at hl 4 rfl) ?_
    refine lv_bipush (pc := 55) (v := 36) hx hb dM_packed_55 (by decide) ?_
    refine lv_icmp_ne (pc := 57) (tgt := 62) hx hb dM_packed_57 (by decide) (fun hc => ?_) (fun hc => ?_)
    · replace hM := it_f hc hM
      refine lv_lload_n (pc := 62) hx hb dM_packed_62 rfl (lv_at hl 2 rfl) ?_
      refine lv_bipush (pc := 63) (v := 6) hx hb dM_packed_63 (by decide) ?_
      refine lv_lshl (pc := 65) (v := z3 <<< ((6 : Int32).toInt64 &&& 63)) hx hb dM_packed_65 rfl ?_
      refine lv_iload (pc := 66) hx hb dM_packed_66 (lv_at hl 4 rfl) ?_
      refine lv_bipush (pc := 68) (v := 46) hx hb dM_packed_68 (by decide) ?_
      refine lv_icmp_ne (pc := 70) (tgt := 78) hx hb dM_packed_70 (by decide) (fun hc => ?_) (fun hc => ?_)
      · replace hM := it_f hc hM
        refine lv_iload (pc := 78) hx hb dM_packed_78 (lv_at hl 4 rfl) ?_
        obtain ⟨r1, hr1, hM⟩ := cr_some hM
        refine x_callSi (pc := 80) C.1 (kM_isDigit l  x6 hr1) gM_isDigit_361 ⟨rfl, by decide, by decide, by decide +kernel⟩ ⟨rfl, rfl⟩ ⟨by decide, by decide⟩ ⟨by decide, by decide⟩ (As := [.int x6]) (n := 1) rfl hl.1 rfl (Nat.le_of_ble_eq_true rfl) dM_packed_80 ?_
        refine lv_if_eq (pc := 83) (tgt := 97) hx hb dM_packed_83 (by decide) (fun hc => ?_) (fun hc => ?_)
        · replace hM := it_t hc hM
          refine lv_iload (pc := 97) hx hb dM_packed_97 (lv_at hl 4 rfl) ?_
          refine lv_bipush (pc := 99) (v := 96) hx hb dM_packed_99 (by decide) ?_
          refine lv_isub (pc := 101) hx hb dM_packed_101 ?_
          exact bM_packed_102 N rec17 C hrec17 _ _ _ _ _ hM hW _ (lv_sub hl [0, 1, 3] rfl)
        · replace hM := it_f hc hM
          refine lv_bipush (pc := 86) (v := 27) hx hb dM_packed_86 (by decide) ?_
          refine lv_iload (pc := 88) hx hb dM_packed_88 (lv_at hl 4 rfl) ?_
          refine lv_iadd (pc := 90) hx hb dM_packed_90 ?_
          refine lv_bipush (pc := 91) (v := 48) hx hb dM_packed_91 (by decide) ?_
          refine lv_isub (pc := 93) hx hb dM_packed_93 ?_
          refine lv_goto (pc := 94) (tgt := 102) hx hb dM_packed_94 (by decide) ?_
          exact bM_packed_102 N rec17 C hrec17 _ _ _ _ _ hM hW _ (lv_sub hl [0, 1, 3] rfl)
      · replace hM := it_t hc hM
        refine lv_bipush (pc := 73) (v := 37) hx hb dM_packed_73 (by decide) ?_
        refine lv_goto (pc := 75) (tgt := 102) hx hb dM_packed_75 (by decide) ?_
        exact bM_packed_102 N rec17 C hrec17 _ _ _ _ _ hM hW _ (lv_sub hl [0, 1, 3] rfl)
    · replace hM := it_t hc hM
      exact bM_packed_60 N  C   _ hM hW _ (lv_sub hl [] rfl)
def M_packed_17 (N : Nat)  : Nat → Int32 → Int64 → Int32 → MS → Option Int64
  | 0 => fun _ _ _ _ => none
  | n + 1 => fun x1 z3 x5 σ => (if x5 < x1 then some z3 else gd (inB x5 4100) ((if (σ.2 1 x5.toNatClampNeg) < (65 : Int32) then M_packed_46 N (M_packed_17 N  n) x1 z3 x5 (σ.2 1 x5.toNatClampNeg) σ else (if (σ.2 1 x5.toNatClampNeg) ≤ (90 : Int32) then M_packed_60 N  σ else M_packed_46 N (M_packed_17 N  n) x1 z3 x5 (σ.2 1 x5.toNatClampNeg) σ))))
set_option maxHeartbeats 4000000 in
set_option maxRecDepth 100000 in
theorem bM_packed_17 (N : Nat)  {r : Int64} (C : CxM p s m args meth c cM_packed 7 (some .long) D dA A) : ∀ (n : Nat) (x1 : Int32) (z3 : Int64) (x5 : Int32) (σ : MS), M_packed_17 N  n x1 z3 x5 σ = some r → WdM D dA h A s σ s.heap [] → ∀ (ls : Array Slot), lv_has ls 7 [(0, .ref (h 0)), (1, .int x1), (3, .long z3), (5, .int x5)] → W p l e rm_packed s m args below meth c s.heap [] 0 0 (MQ below (QS (some (.long r))) args s 0 0 (fun _ => False)) (F0 m 17 ls []) := by
  have hx := C.1.1
  have hb := C.1.2.1
  have hown := C.1.2.2.2.2.1
  have hT := C.1.2.2.2.2.2.1
  intro n
  induction n with
  | zero => intro x1 z3 x5 σ hM; cases hM
  | succ n hrec17 =>
    intro x1 z3 x5 σ hM hW ls hl
    rw [M_packed_17] at hM
    refine lv_iload (pc := 17) hx hb dM_packed_17 (lv_at hl 3 rfl) ?_
    refine lv_iload_n (pc := 19) hx hb dM_packed_19 rfl (lv_at hl 1 rfl) ?_
    refine lv_icmp_lt (pc := 20) (tgt := 111) hx hb dM_packed_20 (by decide) (fun hc => ?_) (fun hc => ?_)
    · replace hM := it_t hc hM
      refine lv_lload_n (pc := 111) hx hb dM_packed_111 rfl (lv_at hl 2 rfl) ?_
      obtain rfl := sm_i hM
      exact x_retRl (pc := 112) C.1 rfl dM_packed_112
    · replace hM := it_f hc hM
      refine lv_aload_n (pc := 23) hx hb dM_packed_23 rfl (lv_at hl 0 rfl) ?_
      refine gM (pc := 24) C hW 6 (by decide) q_1663 rfl rfl dM_packed_24 ?_
      refine lv_iload (pc := 27) hx hb dM_packed_27 (lv_at hl 3 rfl) ?_
      obtain ⟨hg1, hM⟩ := gd_some hM
      refine x_ldC (pc := 29) C hW 5 rfl hg1 dM_packed_29 ?_
      refine lv_istore (pc := 30) (lv' := [(6, .int (σ.2 1 x5.toNatClampNeg)), (0, .ref (h 0)), (1, .int x1), (3, .long z3), (5, .int x5)]) hx hb dM_packed_30 hl (by decide) rfl (fun ls hl => ?_)
      refine lv_iload (pc := 32) hx hb dM_packed_32 (lv_at hl 0 rfl) ?_
      refine lv_bipush (pc := 34) (v := 65) hx hb dM_packed_34 (by decide) ?_
      refine lv_icmp_lt (pc := 36) (tgt := 46) hx hb dM_packed_36 (by decide) (fun hc => ?_) (fun hc => ?_)
      · replace hM := it_t hc hM
        exact bM_packed_46 N _ C hrec17 _ _ _ _ _ hM hW _ (lv_sub hl [1, 2, 3, 4, 0] rfl)
      · replace hM := it_f hc hM
        refine lv_iload (pc := 39) hx hb dM_packed_39 (lv_at hl 0 rfl) ?_
        refine lv_bipush (pc := 41) (v := 90) hx hb dM_packed_41 (by decide) ?_
        refine lv_icmp_le (pc := 43) (tgt := 60) hx hb dM_packed_43 (by decide) (fun hc => ?_) (fun hc => ?_)
        · replace hM := it_t hc hM
          exact bM_packed_60 N  C   _ hM hW _ (lv_sub hl [] rfl)
        · replace hM := it_f hc hM
          exact bM_packed_46 N _ C hrec17 _ _ _ _ _ hM hW _ (lv_sub hl [1, 2, 3, 4, 0] rfl)
def M_packed (N : Nat) (x1 : Int32) (x2 : Int32) (σ : MS) : Option Int64 :=
  (if (x2 - x1) ≤ (10 : Int32) then M_packed_17 N  N x1 (0 : Int64) (x2 - (1 : Int32)) σ else some (0 : Int64))
set_option maxHeartbeats 4000000 in
set_option maxRecDepth 100000 in
theorem bM_packed_0 (N : Nat)  {r : Int64} (C : CxM p s m args meth c cM_packed 7 (some .long) D dA A) (x1 : Int32) (x2 : Int32) (σ : MS) (hM : M_packed N  x1 x2 σ = some r) (hW : WdM D dA h A s σ s.heap []) (ls : Array Slot) (hl : lv_has ls 7 [(0, .ref (h 0)), (1, .int x1), (2, .int x2)]) : W p l e rm_packed s m args below meth c s.heap [] 0 0 (MQ below (QS (some (.long r))) args s 0 0 (fun _ => False)) (F0 m 0 ls []) := by
  have hx := C.1.1
  have hb := C.1.2.1
  have hown := C.1.2.2.2.2.1
  have hT := C.1.2.2.2.2.2.1
  unfold M_packed at hM
  refine lv_iload_n (pc := 0) hx hb dM_packed_0 rfl (lv_at hl 2 rfl) ?_
  refine lv_iload_n (pc := 1) hx hb dM_packed_1 rfl (lv_at hl 1 rfl) ?_
  refine lv_isub (pc := 2) hx hb dM_packed_2 ?_
  refine lv_bipush (pc := 3) (v := 10) hx hb dM_packed_3 (by decide) ?_
  refine lv_icmp_le (pc := 5) (tgt := 10) hx hb dM_packed_5 (by decide) (fun hc => ?_) (fun hc => ?_)
  · replace hM := it_t hc hM
    refine lv_lconst (pc := 10) (v := 0) hx hb dM_packed_10 (by decide) ?_
    refine lv_lstore_n (pc := 11) (lv' := [(3, .long (0 : Int64)), (0, .ref (h 0)), (1, .int x1), (2, .int x2)]) hx hb dM_packed_11 rfl hl (by decide) rfl (fun ls hl => ?_)
    refine lv_iload_n (pc := 12) hx hb dM_packed_12 rfl (lv_at hl 3 rfl) ?_
    refine lv_iconst (pc := 13) (v := 1) hx hb dM_packed_13 (by decide) ?_
    refine lv_isub (pc := 14) hx hb dM_packed_14 ?_
    refine lv_istore (pc := 15) (lv' := [(5, .int (x2 - (1 : Int32))), (3, .long (0 : Int64)), (0, .ref (h 0)), (1, .int x1), (2, .int x2)]) hx hb dM_packed_15 hl (by decide) rfl (fun ls hl => ?_)
    exact bM_packed_17 N  C  N _ _ _ _ hM hW _ (lv_sub hl [2, 3, 1, 0] rfl)
  · replace hM := it_f hc hM
    refine lv_lconst (pc := 8) (v := 0) hx hb dM_packed_8 (by decide) ?_
    obtain rfl := sm_i hM
    exact x_retRl (pc := 9) C.1 rfl dM_packed_9
theorem kM_packed (l : Launch) (D : va_G) (dA : Nat → ClassId) (h : Nat → Nat) (N : Nat) (x1 : Int32) (x2 : Int32) (σ : MS) {r : Int64} (hM : M_packed N x1 x2 σ = some r) : KR l D dA yM_packed cM_packed 7 (some .long) rm_packed h σ [.int x1, .int x2] (some (.long r)) := x_enterR rfl (Nat.le_of_ble_eq_true rfl) (fun p e s m args below meth c A C hW ls hl => bM_packed_0 N C x1 x2 σ hM hW ls hl)
def M_register_96 (N : Nat)  (σ : MS) : Option Int32 :=
  some (-1 : Int32)
set_option maxHeartbeats 4000000 in
set_option maxRecDepth 100000 in
theorem bM_register_96 (N : Nat)  {r : Int32} (C : CxM p s m args meth c cM_register 7 (some .int) D dA A)  (σ : MS) (hM : M_register_96 N   σ = some r) (hW : WdM D dA h A s σ s.heap []) (ls : Array Slot) (hl : lv_has ls 7 []) : W p l e rm_register s m args below meth c s.heap [] 0 0 (MQ below (QS (some (.int r))) args s 0 0 (fun _ => False)) (F0 m 96 ls []) := by
  have hx := C.1.1
  have hb := C.1.2.1
  have hown := C.1.2.2.2.2.1
  have hT := C.1.2.2.2.2.2.1
  unfold M_register_96 at hM
  refine lv_iconst (pc := 96) (v := -1) hx hb dM_register_96 (by decide) ?_
  obtain rfl := sm_i hM
  exact x_retS (pc := 97) C.1 rfl dM_register_97
def M_register_292 (N : Nat) (t0 : Int32) (σ : MS) : Option Int32 :=
  some t0
set_option maxHeartbeats 4000000 in
set_option maxRecDepth 100000 in
theorem bM_register_292 (N : Nat)  {r : Int32} (C : CxM p s m args meth c cM_register 7 (some .int) D dA A) (t0 : Int32) (σ : MS) (hM : M_register_292 N  t0 σ = some r) (hW : WdM D dA h A s σ s.heap []) (ls : Array Slot) (hl : lv_has ls 7 []) : W p l e rm_register s m args below meth c s.heap [] 0 0 (MQ below (QS (some (.int r))) args s 0 0 (fun _ => False)) (F0 m 292 ls [.int t0]) := by
  have hx := C.1.1
  have hb := C.1.2.1
  have hown := C.1.2.2.2.2.1
  have hT := C.1.2.2.2.2.2.1
  unfold M_register_292 at hM
  obtain rfl := sm_i hM
  exact x_retS (pc := 292) C.1 rfl dM_register_292
def M_register_250 (N : Nat) (t0 : Int32) (σ : MS) : Option Int32 :=
  some t0
set_option maxHeartbeats 4000000 in
set_option maxRecDepth 100000 in
theorem bM_register_250 (N : Nat)  {r : Int32} (C : CxM p s m args meth c cM_register 7 (some .int) D dA A) (t0 : Int32) (σ : MS) (hM : M_register_250 N  t0 σ = some r) (hW : WdM D dA h A s σ s.heap []) (ls : Array Slot) (hl : lv_has ls 7 []) : W p l e rm_register s m args below meth c s.heap [] 0 0 (MQ below (QS (some (.int r))) args s 0 0 (fun _ => False)) (F0 m 250 ls [.int t0]) := by
  have hx := C.1.1
  have hb := C.1.2.1
  have hown := C.1.2.2.2.2.1
  have hT := C.1.2.2.2.2.2.1
  unfold M_register_250 at hM
  obtain rfl := sm_i hM
  exact x_retS (pc := 250) C.1 rfl dM_register_250
def M_register_213 (N : Nat) (t0 : Int32) (σ : MS) : Option Int32 :=
  some t0
set_option maxHeartbeats 4000000 in
set_option maxRecDepth 100000 in
theorem bM_register_213 (N : Nat)  {r : Int32} (C : CxM p s m args meth c cM_register 7 (some .int) D dA A) (t0 : Int32) (σ : MS) (hM : M_register_213 N  t0 σ = some r) (hW : WdM D dA h A s σ s.heap []) (ls : Array Slot) (hl : lv_has ls 7 []) : W p l e rm_register s m args below meth c s.heap [] 0 0 (MQ below (QS (some (.int r))) args s 0 0 (fun _ => False)) (F0 m 213 ls [.int t0]) := by
  have hx := C.1.1
  have hb := C.1.2.1
  have hown := C.1.2.2.2.2.1
  have hT := C.1.2.2.2.2.2.1
  unfold M_register_213 at hM
  obtain rfl := sm_i hM
  exact x_retS (pc := 213) C.1 rfl dM_register_213
def M_register_189 (N : Nat) (t0 : Int32) (σ : MS) : Option Int32 :=
  some t0
set_option maxHeartbeats 4000000 in
set_option maxRecDepth 100000 in
theorem bM_register_189 (N : Nat)  {r : Int32} (C : CxM p s m args meth c cM_register 7 (some .int) D dA A) (t0 : Int32) (σ : MS) (hM : M_register_189 N  t0 σ = some r) (hW : WdM D dA h A s σ s.heap []) (ls : Array Slot) (hl : lv_has ls 7 []) : W p l e rm_register s m args below meth c s.heap [] 0 0 (MQ below (QS (some (.int r))) args s 0 0 (fun _ => False)) (F0 m 189 ls [.int t0]) := by
  have hx := C.1.1
  have hb := C.1.2.1
  have hown := C.1.2.2.2.2.1
  have hT := C.1.2.2.2.2.2.1
  unfold M_register_189 at hM
  obtain rfl := sm_i hM
  exact x_retS (pc := 189) C.1 rfl dM_register_189
def M_register_161 (N : Nat) (x1 : Int32) (x5 : Int32) (σ : MS) : Option Int32 :=
  gd (inB x1 4100) ((if (σ.2 1 x1.toNatClampNeg) = (120 : Int32) then (if (32 : Int32) ≤ x5 then M_register_189 N  (-1 : Int32) σ else M_register_189 N  x5 σ) else (if (σ.2 1 x1.toNatClampNeg) = (97 : Int32) then (if (8 : Int32) ≤ x5 then M_register_213 N  (-1 : Int32) σ else M_register_213 N  ((10 : Int32) + x5) σ) else (if (σ.2 1 x1.toNatClampNeg) = (116 : Int32) then (if (3 : Int32) ≤ x5 then (if (7 : Int32) ≤ x5 then M_register_250 N  (-1 : Int32) σ else M_register_250 N  ((25 : Int32) + x5) σ) else M_register_250 N  ((5 : Int32) + x5) σ) else (if (σ.2 1 x1.toNatClampNeg) = (115 : Int32) then (if (2 : Int32) ≤ x5 then (if (12 : Int32) ≤ x5 then M_register_292 N  (-1 : Int32) σ else M_register_292 N  ((16 : Int32) + x5) σ) else M_register_292 N  ((8 : Int32) + x5) σ) else M_register_292 N  (-1 : Int32) σ)))))
set_option maxHeartbeats 4000000 in
set_option maxRecDepth 100000 in
theorem bM_register_161 (N : Nat)  {r : Int32} (C : CxM p s m args meth c cM_register 7 (some .int) D dA A) (x1 : Int32) (x5 : Int32) (σ : MS) (hM : M_register_161 N  x1 x5 σ = some r) (hW : WdM D dA h A s σ s.heap []) (ls : Array Slot) (hl : lv_has ls 7 [(0, .ref (h 0)), (1, .int x1), (5, .int x5)]) : W p l e rm_register s m args below meth c s.heap [] 0 0 (MQ below (QS (some (.int r))) args s 0 0 (fun _ => False)) (F0 m 161 ls []) := by
  have hx := C.1.1
  have hb := C.1.2.1
  have hown := C.1.2.2.2.2.1
  have hT := C.1.2.2.2.2.2.1
  unfold M_register_161 at hM
  refine lv_aload_n (pc := 161) hx hb dM_register_161 rfl (lv_at hl 0 rfl) ?_
  refine gM (pc := 162) C hW 6 (by decide) q_1663 rfl rfl dM_register_162 ?_
  refine lv_iload_n (pc := 165) hx hb dM_register_165 rfl (lv_at hl 1 rfl) ?_
  obtain ⟨hg1, hM⟩ := gd_some hM
  refine x_ldC (pc := 166) C hW 5 rfl hg1 dM_register_166 ?_
  refine lv_istore (pc := 167) (lv' := [(6, .int (σ.2 1 x1.toNatClampNeg)), (0, .ref (h 0)), (1, .int x1), (5, .int x5)]) hx hb dM_register_167 hl (by decide) rfl (fun ls hl => ?_)
  refine lv_iload (pc := 169) hx hb dM_register_169 (lv_at hl 0 rfl) ?_
  refine lv_bipush (pc := 171) (v := 120) hx hb dM_register_171 (by decide) ?_
  refine lv_icmp_ne (pc := 173) (tgt := 190) hx hb dM_register_173 (by decide) (fun hc => ?_) (fun hc => ?_)
  · replace hM := it_f hc hM
    refine lv_iload (pc := 190) hx hb dM_register_190 (lv_at hl 0 rfl) ?_
    refine lv_bipush (pc := 192) (v := 97) hx hb dM_register_192 (by decide) ?_
    refine lv_icmp_ne (pc := 194) (tgt := 214) hx hb dM_register_194 (by decide) (fun hc => ?_) (fun hc => ?_)
    · replace hM := it_f hc hM
      refine lv_iload (pc := 214) hx hb dM_register_214 (lv_at hl 0 rfl) ?_
      refine lv_bipush (pc := 216) (v := 116) hx hb dM_register_216 (by decide) ?_
      refine lv_icmp_ne (pc := 218) (tgt := 251) hx hb dM_register_218 (by decide) (fun hc => ?_) (fun hc => ?_)
      · replace hM := it_f hc hM
        refine lv_iload (pc := 251) hx hb dM_register_251 (lv_at hl 0 rfl) ?_
        refine lv_bipush (pc := 253) (v := 115) hx hb dM_register_253 (by decide) ?_
        refine lv_icmp_eq (pc := 255) (tgt := 262) hx hb dM_register_255 (by decide) (fun hc => ?_) (fun hc => ?_)
        · replace hM := it_t hc hM
          refine lv_iload (pc := 262) hx hb dM_register_262 (lv_at hl 3 rfl) ?_
          refine lv_iconst (pc := 264) (v := 2) hx hb dM_register_264 (by decide) ?_
          refine lv_icmp_ge (pc := 265) (tgt := 276) hx hb dM_register_265 (by decide) (fun hc => ?_) (fun hc => ?_)
          · replace hM := it_t hc hM
            refine lv_iload (pc := 276) hx hb dM_register_276 (lv_at hl 3 rfl) ?_
            refine lv_bipush (pc := 278) (v := 12) hx hb dM_register_278 (by decide) ?_
            refine lv_icmp_ge (pc := 280) (tgt := 291) hx hb dM_register_280 (by decide) (fun hc => ?_) (fun hc => ?_)
            · replace hM := it_t hc hM
              refine lv_iconst (pc := 291) (v := -1) hx hb dM_register_291 (by decide) ?_
              exact bM_register_292 N  C  _ _ hM hW _ (lv_sub hl [] rfl)
            · replace hM := it_f hc hM
              refine lv_bipush (pc := 283) (v := 16) hx hb dM_register_283 (by decide) ?_
              refine lv_iload (pc := 285) hx hb dM_register_285 (lv_at hl 3 rfl) ?_
              refine lv_iadd (pc := 287) hx hb dM_register_287 ?_
              refine lv_goto (pc := 288) (tgt := 292) hx hb dM_register_288 (by decide) ?_
              exact bM_register_292 N  C  _ _ hM hW _ (lv_sub hl [] rfl)
          · replace hM := it_f hc hM
            refine lv_bipush (pc := 268) (v := 8) hx hb dM_register_268 (by decide) ?_
            refine lv_iload (pc := 270) hx hb dM_register_270 (lv_at hl 3 rfl) ?_
            refine lv_iadd (pc := 272) hx hb dM_register_272 ?_
            refine lv_goto (pc := 273) (tgt := 292) hx hb dM_register_273 (by decide) ?_
            exact bM_register_292 N  C  _ _ hM hW _ (lv_sub hl [] rfl)
        · replace hM := it_f hc hM
          refine lv_iconst (pc := 258) (v := -1) hx hb dM_register_258 (by decide) ?_
          refine lv_goto (pc := 259) (tgt := 292) hx hb dM_register_259 (by decide) ?_
          exact bM_register_292 N  C  _ _ hM hW _ (lv_sub hl [] rfl)
      · replace hM := it_t hc hM
        refine lv_iload (pc := 221) hx hb dM_register_221 (lv_at hl 3 rfl) ?_
        refine lv_iconst (pc := 223) (v := 3) hx hb dM_register_223 (by decide) ?_
        refine lv_icmp_ge (pc := 224) (tgt := 234) hx hb dM_register_224 (by decide) (fun hc => ?_) (fun hc => ?_)
        · replace hM := it_t hc hM
          refine lv_iload (pc := 234) hx hb dM_register_234 (lv_at hl 3 rfl) ?_
          refine lv_bipush (pc := 236) (v := 7) hx hb dM_register_236 (by decide) ?_
          refine lv_icmp_ge (pc := 238) (tgt := 249) hx hb dM_register_238 (by decide) (fun hc => ?_) (fun hc => ?_)
          · replace hM := it_t hc hM
            refine lv_iconst (pc := 249) (v := -1) hx hb dM_register_249 (by decide) ?_
            exact bM_register_250 N  C  _ _ hM hW _ (lv_sub hl [] rfl)
          · replace hM := it_f hc hM
            refine lv_bipush (pc := 241) (v := 25) hx hb dM_register_241 (by decide) ?_
            refine lv_iload (pc := 243) hx hb dM_register_243 (lv_at hl 3 rfl) ?_
            refine lv_iadd (pc := 245) hx hb dM_register_245 ?_
            refine lv_goto (pc := 246) (tgt := 250) hx hb dM_register_246 (by decide) ?_
            exact bM_register_250 N  C  _ _ hM hW _ (lv_sub hl [] rfl)
        · replace hM := it_f hc hM
          refine lv_iconst (pc := 227) (v := 5) hx hb dM_register_227 (by decide) ?_
          refine lv_iload (pc := 228) hx hb dM_register_228 (lv_at hl 3 rfl) ?_
          refine lv_iadd (pc := 230) hx hb dM_register_230 ?_
          refine lv_goto (pc := 231) (tgt := 250) hx hb dM_register_231 (by decide) ?_
          exact bM_register_250 N  C  _ _ hM hW _ (lv_sub hl [] rfl)
    · replace hM := it_t hc hM
      refine lv_iload (pc := 197) hx hb dM_register_197 (lv_at hl 3 rfl) ?_
      refine lv_bipush (pc := 199) (v := 8) hx hb dM_register_199 (by decide) ?_
      refine lv_icmp_ge (pc := 201) (tgt := 212) hx hb dM_register_201 (by decide) (fun hc => ?_) (fun hc => ?_)
      · replace hM := it_t hc hM
        refine lv_iconst (pc := 212) (v := -1) hx hb dM_register_212 (by decide) ?_
        exact bM_register_213 N  C  _ _ hM hW _ (lv_sub hl [] rfl)
      · replace hM := it_f hc hM
        refine lv_bipush (pc := 204) (v := 10) hx hb dM_register_204 (by decide) ?_
        refine lv_iload (pc := 206) hx hb dM_register_206 (lv_at hl 3 rfl) ?_
        refine lv_iadd (pc := 208) hx hb dM_register_208 ?_
        refine lv_goto (pc := 209) (tgt := 213) hx hb dM_register_209 (by decide) ?_
        exact bM_register_213 N  C  _ _ hM hW _ (lv_sub hl [] rfl)
  · replace hM := it_t hc hM
    refine lv_iload (pc := 176) hx hb dM_register_176 (lv_at hl 3 rfl) ?_
    refine lv_bipush (pc := 178) (v := 32) hx hb dM_register_178 (by decide) ?_
    refine lv_icmp_ge (pc := 180) (tgt := 188) hx hb dM_register_180 (by decide) (fun hc => ?_) (fun hc => ?_)
    · replace hM := it_t hc hM
      refine lv_iconst (pc := 188) (v := -1) hx hb dM_register_188 (by decide) ?_
      exact bM_register_189 N  C  _ _ hM hW _ (lv_sub hl [] rfl)
    · replace hM := it_f hc hM
      refine lv_iload (pc := 183) hx hb dM_register_183 (lv_at hl 3 rfl) ?_
      refine lv_goto (pc := 185) (tgt := 189) hx hb dM_register_185 (by decide) ?_
      exact bM_register_189 N  C  _ _ hM hW _ (lv_sub hl [] rfl)
def M_register_159 (N : Nat) (x1 : Int32) (t0 : Int32) (σ : MS) : Option Int32 :=
  M_register_161 N  x1 t0 σ
set_option maxHeartbeats 4000000 in
set_option maxRecDepth 100000 in
theorem bM_register_159 (N : Nat)  {r : Int32} (C : CxM p s m args meth c cM_register 7 (some .int) D dA A) (x1 : Int32) (t0 : Int32) (σ : MS) (hM : M_register_159 N  x1 t0 σ = some r) (hW : WdM D dA h A s σ s.heap []) (ls : Array Slot) (hl : lv_has ls 7 [(0, .ref (h 0)), (1, .int x1)]) : W p l e rm_register s m args below meth c s.heap [] 0 0 (MQ below (QS (some (.int r))) args s 0 0 (fun _ => False)) (F0 m 159 ls [.int t0]) := by
  have hx := C.1.1
  have hb := C.1.2.1
  have hown := C.1.2.2.2.2.1
  have hT := C.1.2.2.2.2.2.1
  unfold M_register_159 at hM
  refine lv_istore (pc := 159) (lv' := [(5, .int t0), (0, .ref (h 0)), (1, .int x1)]) hx hb dM_register_159 hl (by decide) rfl (fun ls hl => ?_)
  exact bM_register_161 N  C  _ _ _ hM hW _ (lv_sub hl [1, 2, 0] rfl)
def M_register_137 (N : Nat) (x1 : Int32) (σ : MS) : Option Int32 :=
  M_register_159 N  x1 (99 : Int32) σ
set_option maxHeartbeats 4000000 in
set_option maxRecDepth 100000 in
theorem bM_register_137 (N : Nat)  {r : Int32} (C : CxM p s m args meth c cM_register 7 (some .int) D dA A) (x1 : Int32) (σ : MS) (hM : M_register_137 N  x1 σ = some r) (hW : WdM D dA h A s σ s.heap []) (ls : Array Slot) (hl : lv_has ls 7 [(0, .ref (h 0)), (1, .int x1)]) : W p l e rm_register s m args below meth c s.heap [] 0 0 (MQ below (QS (some (.int r))) args s 0 0 (fun _ => False)) (F0 m 137 ls []) := by
  have hx := C.1.1
  have hb := C.1.2.1
  have hown := C.1.2.2.2.2.1
  have hT := C.1.2.2.2.2.2.1
  unfold M_register_137 at hM
  refine lv_bipush (pc := 137) (v := 99) hx hb dM_register_137 (by decide) ?_
  refine lv_goto (pc := 139) (tgt := 159) hx hb dM_register_139 (by decide) ?_
  exact bM_register_159 N  C  _ _ _ hM hW _ (lv_sub hl [0, 1] rfl)
def M_register (N : Nat) (x1 : Int32) (x2 : Int32) (σ : MS) : Option Int32 :=
  cr (M_packed N x1 x2 σ) (fun r1 => (if (lg_cmp r1 (4006234 : Int64)) = 0 then some (0 : Int32) else (if (lg_cmp r1 (82 : Int64)) = 0 then some (1 : Int32) else (if (lg_cmp r1 (1043 : Int64)) = 0 then some (2 : Int32) else (if (lg_cmp r1 (1031 : Int64)) = 0 then some (3 : Int32) else (if (lg_cmp r1 (1044 : Int64)) = 0 then some (4 : Int32) else (if (lg_cmp r1 (1030 : Int64)) = 0 then some (8 : Int32) else (if (x2 - x1) < (2 : Int32) then M_register_96 N  σ else (if (3 : Int32) < (x2 - x1) then M_register_96 N  σ else gd (inB (x1 + (1 : Int32)) 4100) (cr (M_isDigit  (σ.2 1 (x1 + (1 : Int32)).toNatClampNeg)) (fun r3 => (if r3 = 0 then M_register_96 N  σ else gd (inB (x1 + (1 : Int32)) 4100) (bnd ((σ.2 1 (x1 + (1 : Int32)).toNatClampNeg) - (48 : Int32)) (fun y5 => (if (x2 - x1) = (3 : Int32) then (if y5 = 0 then M_register_137 N  x1 σ else gd (inB (x1 + (2 : Int32)) 4100) (cr (M_isDigit  (σ.2 1 (x1 + (2 : Int32)).toNatClampNeg)) (fun r7 => (if r7 = 0 then M_register_137 N  x1 σ else gd (inB (x1 + (2 : Int32)) 4100) (M_register_159 N  x1 ((((10 : Int32) * y5) + (σ.2 1 (x1 + (2 : Int32)).toNatClampNeg)) - (48 : Int32)) σ))))) else M_register_161 N  x1 y5 σ)))))))))))))))
set_option maxHeartbeats 4000000 in
set_option maxRecDepth 100000 in
theorem bM_register_0 (N : Nat)  {r : Int32} (C : CxM p s m args meth c cM_register 7 (some .int) D dA A) (x1 : Int32) (x2 : Int32) (σ : MS) (hM : M_register N  x1 x2 σ = some r) (hW : WdM D dA h A s σ s.heap []) (ls : Array Slot) (hl : lv_has ls 7 [(0, .ref (h 0)), (1, .int x1), (2, .int x2)]) : W p l e rm_register s m args below meth c s.heap [] 0 0 (MQ below (QS (some (.int r))) args s 0 0 (fun _ => False)) (F0 m 0 ls []) := by
  have hx := C.1.1
  have hb := C.1.2.1
  have hown := C.1.2.2.2.2.1
  have hT := C.1.2.2.2.2.2.1
  unfold M_register at hM
  refine lv_aload_n (pc := 0) hx hb dM_register_0 rfl (lv_at hl 0 rfl) ?_
  refine lv_iload_n (pc := 1) hx hb dM_register_1 rfl (lv_at hl 1 rfl) ?_
  refine lv_iload_n (pc := 2) hx hb dM_register_2 rfl (lv_at hl 2 rfl) ?_
  obtain ⟨r1, hr1, hM⟩ := cr_some hM
  refine x_callRl (pc := 3) C hW (kM_packed l D dA h N x1 x2 _ hr1) gM_packed_433 ⟨rfl, by decide, by decide, by decide +kernel⟩ ⟨rfl, rfl⟩ ⟨by decide, by decide⟩ ⟨by decide, by decide⟩ (As := [.int x1, .int x2]) (n := 2) rfl hl.1 rfl (Nat.le_of_ble_eq_true rfl) dM_register_3 ?_
  refine lv_lstore_n (pc := 6) (lv' := [(3, .long r1), (0, .ref (h 0)), (1, .int x1), (2, .int x2)]) hx hb dM_register_6 rfl hl (by decide) rfl (fun ls hl => ?_)
  refine lv_lload_n (pc := 7) hx hb dM_register_7 rfl (lv_at hl 0 rfl) ?_
  refine lv_ldc2 (pc := 8) (v := 4006234) hx hb hown (hT _ q_1868) dM_register_8 ?_
  refine W.lcmp (pc := 11) hx hb dM_register_11 ?_
  refine lv_if_ne (pc := 12) (tgt := 17) hx hb dM_register_12 (by decide) (fun hc => ?_) (fun hc => ?_)
  · replace hM := it_f hc hM
    refine lv_lload_n (pc := 17) hx hb dM_register_17 rfl (lv_at hl 0 rfl) ?_
    refine lv_ldc2 (pc := 18) (v := 82) hx hb hown (hT _ q_1869) dM_register_18 ?_
    refine W.lcmp (pc := 21) hx hb dM_register_21 ?_
    refine lv_if_ne (pc := 22) (tgt := 27) hx hb dM_register_22 (by decide) (fun hc => ?_) (fun hc => ?_)
    · replace hM := it_f hc hM
      refine lv_lload_n (pc := 27) hx hb dM_register_27 rfl (lv_at hl 0 rfl) ?_
      refine lv_ldc2 (pc := 28) (v := 1043) hx hb hown (hT _ q_1870) dM_register_28 ?_
      refine W.lcmp (pc := 31) hx hb dM_register_31 ?_
      refine lv_if_ne (pc := 32) (tgt := 37) hx hb dM_register_32 (by decide) (fun hc => ?_) (fun hc => ?_)
      · replace hM := it_f hc hM
        refine lv_lload_n (pc := 37) hx hb dM_register_37 rfl (lv_at hl 0 rfl) ?_
        refine lv_ldc2 (pc := 38) (v := 1031) hx hb hown (hT _ q_1871) dM_register_38 ?_
        refine W.lcmp (pc := 41) hx hb dM_register_41 ?_
        refine lv_if_ne (pc := 42) (tgt := 47) hx hb dM_register_42 (by decide) (fun hc => ?_) (fun hc => ?_)
        · replace hM := it_f hc hM
          refine lv_lload_n (pc := 47) hx hb dM_register_47 rfl (lv_at hl 0 rfl) ?_
          refine lv_ldc2 (pc := 48) (v := 1044) hx hb hown (hT _ q_1872) dM_register_48 ?_
          refine W.lcmp (pc := 51) hx hb dM_register_51 ?_
          refine lv_if_ne (pc := 52) (tgt := 57) hx hb dM_register_52 (by decide) (fun hc => ?_) (fun hc => ?_)
          · replace hM := it_f hc hM
            refine lv_lload_n (pc := 57) hx hb dM_register_57 rfl (lv_at hl 0 rfl) ?_
            refine lv_ldc2 (pc := 58) (v := 1030) hx hb hown (hT _ q_1873) dM_register_58 ?_
            refine W.lcmp (pc := 61) hx hb dM_register_61 ?_
            refine lv_if_ne (pc := 62) (tgt := 68) hx hb dM_register_62 (by decide) (fun hc => ?_) (fun hc => ?_)
            · replace hM := it_f hc hM
              refine lv_iload_n (pc := 68) hx hb dM_register_68 rfl (lv_at hl 3 rfl) ?_
              refine lv_iload_n (pc := 69) hx hb dM_register_69 rfl (lv_at hl 2 rfl) ?_
              refine lv_isub (pc := 70) hx hb dM_register_70 ?_
              refine lv_iconst (pc := 71) (v := 2) hx hb dM_register_71 (by decide) ?_
              refine lv_icmp_lt (pc := 72) (tgt := 96) hx hb dM_register_72 (by decide) (fun hc => ?_) (fun hc => ?_)
              · replace hM := it_t hc hM
                exact bM_register_96 N  C   _ hM hW _ (lv_sub hl [] rfl)
              · replace hM := it_f hc hM
                refine lv_iload_n (pc := 75) hx hb dM_register_75 rfl (lv_at hl 3 rfl) ?_
                refine lv_iload_n (pc := 76) hx hb dM_register_76 rfl (lv_at hl 2 rfl) ?_
                refine lv_isub (pc := 77) hx hb dM_register_77 ?_
                refine lv_iconst (pc := 78) (v := 3) hx hb dM_register_78 (by decide) ?_
                refine lv_icmp_gt (pc := 79) (tgt := 96) hx hb dM_register_79 (by decide) (fun hc => ?_) (fun hc => ?_)
                · replace hM := it_t hc hM
                  exact bM_register_96 N  C   _ hM hW _ (lv_sub hl [] rfl)
                · replace hM := it_f hc hM
                  refine lv_aload_n (pc := 82) hx hb dM_register_82 rfl (lv_at hl 1 rfl) ?_
                  refine gM (pc := 83) C hW 6 (by decide) q_1663 rfl rfl dM_register_83 ?_
                  refine lv_iload_n (pc := 86) hx hb dM_register_86 rfl (lv_at hl 2 rfl) ?_
                  refine lv_iconst (pc := 87) (v := 1) hx hb dM_register_87 (by decide) ?_
                  refine lv_iadd (pc := 88) hx hb dM_register_88 ?_
                  obtain ⟨hg2, hM⟩ := gd_some hM
                  refine x_ldC (pc := 89) C hW 5 rfl hg2 dM_register_89 ?_
                  obtain ⟨r3, hr3, hM⟩ := cr_some hM
                  refine x_callSi (pc := 90) C.1 (kM_isDigit l  (σ.2 1 (x1 + (1 : Int32)).toNatClampNeg) hr3) gM_isDigit_361 ⟨rfl, by decide, by decide, by decide +kernel⟩ ⟨rfl, rfl⟩ ⟨by decide, by decide⟩ ⟨by decide, by decide⟩ (As := [.int (σ.2 1 (x1 + (1 : Int32)).toNatClampNeg)]) (n := 1) rfl hl.1 rfl (Nat.le_of_ble_eq_true rfl) dM_register_90 ?_
                  refine lv_if_ne (pc := 93) (tgt := 98) hx hb dM_register_93 (by decide) (fun hc => ?_) (fun hc => ?_)
                  · replace hM := it_f hc hM
                    refine lv_aload_n (pc := 98) hx hb dM_register_98 rfl (lv_at hl 1 rfl) ?_
                    refine gM (pc := 99) C hW 6 (by decide) q_1663 rfl rfl dM_register_99 ?_
                    refine lv_iload_n (pc := 102) hx hb dM_register_102 rfl (lv_at hl 2 rfl) ?_
                    refine lv_iconst (pc := 103) (v := 1) hx hb dM_register_103 (by decide) ?_
                    refine lv_iadd (pc := 104) hx hb dM_register_104 ?_
                    obtain ⟨hg4, hM⟩ := gd_some hM
                    refine x_ldC (pc := 105) C hW 5 rfl hg4 dM_register_105 ?_
                    refine lv_bipush (pc := 106) (v := 48) hx hb dM_register_106 (by decide) ?_
                    refine lv_isub (pc := 108) hx hb dM_register_108 ?_
                    obtain ⟨y5, ey5, hM⟩ := bnd_some hM
                    refine x_seti ey5 ?_
                    refine lv_istore (pc := 109) (lv' := [(5, .int y5), (3, .long r1), (0, .ref (h 0)), (1, .int x1), (2, .int x2)]) hx hb dM_register_109 hl (by decide) rfl (fun ls hl => ?_)
                    refine lv_iload_n (pc := 111) hx hb dM_register_111 rfl (lv_at hl 4 rfl) ?_
                    refine lv_iload_n (pc := 112) hx hb dM_register_112 rfl (lv_at hl 3 rfl) ?_
                    refine lv_isub (pc := 113) hx hb dM_register_113 ?_
                    refine lv_iconst (pc := 114) (v := 3) hx hb dM_register_114 (by decide) ?_
                    refine lv_icmp_ne (pc := 115) (tgt := 161) hx hb dM_register_115 (by decide) (fun hc => ?_) (fun hc => ?_)
                    · replace hM := it_f hc hM
                      exact bM_register_161 N  C  _ _ _ hM hW _ (lv_sub hl [2, 3, 0] rfl)
                    · replace hM := it_t hc hM
                      refine lv_iload (pc := 118) hx hb dM_register_118 (lv_at hl 0 rfl) ?_
                      refine lv_if_eq (pc := 120) (tgt := 137) hx hb dM_register_120 (by decide) (fun hc => ?_) (fun hc => ?_)
                      · replace hM := it_t hc hM
                        exact bM_register_137 N  C  _ _ hM hW _ (lv_sub hl [2, 3] rfl)
                      · replace hM := it_f hc hM
                        refine lv_aload_n (pc := 123) hx hb dM_register_123 rfl (lv_at hl 2 rfl) ?_
                        refine gM (pc := 124) C hW 6 (by decide) q_1663 rfl rfl dM_register_124 ?_
                        refine lv_iload_n (pc := 127) hx hb dM_register_127 rfl (lv_at hl 3 rfl) ?_
                        refine lv_iconst (pc := 128) (v := 2) hx hb dM_register_128 (by decide) ?_
                        refine lv_iadd (pc := 129) hx hb dM_register_129 ?_
                        obtain ⟨hg6, hM⟩ := gd_some hM
                        refine x_ldC (pc := 130) C hW 5 rfl hg6 dM_register_130 ?_
                        obtain ⟨r7, hr7, hM⟩ := cr_some hM
                        refine x_callSi (pc := 131) C.1 (kM_isDigit l  (σ.2 1 (x1 + (2 : Int32)).toNatClampNeg) hr7) gM_isDigit_361 ⟨rfl, by decide, by decide, by decide +kernel⟩ ⟨rfl, rfl⟩ ⟨by decide, by decide⟩ ⟨by decide, by decide⟩ (As := [.int (σ.2 1 (x1 + (2 : Int32)).toNatClampNeg)]) (n := 1) rfl hl.1 rfl (Nat.le_of_ble_eq_true rfl) dM_register_131 ?_
                        refine lv_if_ne (pc := 134) (tgt := 142) hx hb dM_register_134 (by decide) (fun hc => ?_) (fun hc => ?_)
                        · replace hM := it_f hc hM
                          refine lv_bipush (pc := 142) (v := 10) hx hb dM_register_142 (by decide) ?_
                          refine lv_iload (pc := 144) hx hb dM_register_144 (lv_at hl 0 rfl) ?_
                          refine lv_imul (pc := 146) hx hb dM_register_146 ?_
                          refine lv_aload_n (pc := 147) hx hb dM_register_147 rfl (lv_at hl 2 rfl) ?_
                          refine gM (pc := 148) C hW 6 (by decide) q_1663 rfl rfl dM_register_148 ?_
                          refine lv_iload_n (pc := 151) hx hb dM_register_151 rfl (lv_at hl 3 rfl) ?_
                          refine lv_iconst (pc := 152) (v := 2) hx hb dM_register_152 (by decide) ?_
                          refine lv_iadd (pc := 153) hx hb dM_register_153 ?_
                          obtain ⟨hg8, hM⟩ := gd_some hM
                          refine x_ldC (pc := 154) C hW 5 rfl hg8 dM_register_154 ?_
                          refine lv_iadd (pc := 155) hx hb dM_register_155 ?_
                          refine lv_bipush (pc := 156) (v := 48) hx hb dM_register_156 (by decide) ?_
                          refine lv_isub (pc := 158) hx hb dM_register_158 ?_
                          exact bM_register_159 N  C  _ _ _ hM hW _ (lv_sub hl [2, 3] rfl)
                        · replace hM := it_t hc hM
                          exact bM_register_137 N  C  _ _ hM hW _ (lv_sub hl [2, 3] rfl)
                  · replace hM := it_t hc hM
                    exact bM_register_96 N  C   _ hM hW _ (lv_sub hl [] rfl)
            · replace hM := it_t hc hM
              refine lv_bipush (pc := 65) (v := 8) hx hb dM_register_65 (by decide) ?_
              obtain rfl := sm_i hM
              exact x_retS (pc := 67) C.1 rfl dM_register_67
          · replace hM := it_t hc hM
            refine lv_iconst (pc := 55) (v := 4) hx hb dM_register_55 (by decide) ?_
            obtain rfl := sm_i hM
            exact x_retS (pc := 56) C.1 rfl dM_register_56
        · replace hM := it_t hc hM
          refine lv_iconst (pc := 45) (v := 3) hx hb dM_register_45 (by decide) ?_
          obtain rfl := sm_i hM
          exact x_retS (pc := 46) C.1 rfl dM_register_46
      · replace hM := it_t hc hM
        refine lv_iconst (pc := 35) (v := 2) hx hb dM_register_35 (by decide) ?_
        obtain rfl := sm_i hM
        exact x_retS (pc := 36) C.1 rfl dM_register_36
    · replace hM := it_t hc hM
      refine lv_iconst (pc := 25) (v := 1) hx hb dM_register_25 (by decide) ?_
      obtain rfl := sm_i hM
      exact x_retS (pc := 26) C.1 rfl dM_register_26
  · replace hM := it_t hc hM
    refine lv_iconst (pc := 15) (v := 0) hx hb dM_register_15 (by decide) ?_
    obtain rfl := sm_i hM
    exact x_retS (pc := 16) C.1 rfl dM_register_16
theorem kM_register (l : Launch) (D : va_G) (dA : Nat → ClassId) (h : Nat → Nat) (N : Nat) (x1 : Int32) (x2 : Int32) (σ : MS) {r : Int32} (hM : M_register N x1 x2 σ = some r) : KR l D dA yM_register cM_register 7 (some .int) rm_register h σ [.int x1, .int x2] (some (.int r)) := x_enterR rfl (Nat.le_of_ble_eq_true rfl) (fun p e s m args below meth c A C hW ls hl => bM_register_0 N C x1 x2 σ hM hW ls hl)
end
