/-! ===== the start: what the statement gives of the tables, the Strings, the enum ===== -/
def sbq : List Cond → List Cond → Bool
  | [], need => need.isEmpty
  | _ :: _, [] => true
  | h :: hs, n :: ns => if n = h then sbq hs ns else sbq hs (n :: ns)
theorem sbq_mem : ∀ (hs need : List Cond), sbq hs need = true → ∀ w ∈ need, w ∈ hs
  | [], need, h, w, hw => by
    have h1 : need.isEmpty = true := h
    rw [List.isEmpty_iff] at h1
    rw [h1] at hw
    cases hw
  | a :: hs, [], h, w, hw => absurd hw List.not_mem_nil
  | a :: hs, n :: ns, h, w, hw => by
    unfold sbq at h
    by_cases e : n = a
    · rw [if_pos e] at h
      rcases List.mem_cons.mp hw with rfl | hw
      · rw [e]; exact List.mem_cons_self
      · exact List.mem_cons_of_mem _ (sbq_mem hs ns h w hw)
    · rw [if_neg e] at h
      exact List.mem_cons_of_mem _ (sbq_mem hs (n :: ns) h w hw)
def st_R (i : Nat) : String × Nat × String := ex_RL.getD i ("", 0, "")
def st_t (i : Nat) : Term := .string (st_R i).1 (st_R i).2.1
abbrev st_v (t : Term) : Term := .field t "java/lang/String" "value" "[B"
def needS (i : Nat) : List Cond := [.exactly (st_t i) "java/lang/String", .eq (.field (st_t i) "java/lang/String" "coder" "B") (.int 0), .arrayOf (st_v (st_t i)) .byte, .eq (.length (st_v (st_t i))) (.int (Int32.ofNat (ex_len.getD i 0)))] ++ (List.range (ex_len.getD i 0)).map (fun j => .eq (.elem (st_v (st_t i)) (.int (Int32.ofNat j))) (.int ((ex_byt.getD i []).getD j 0)))
def st_nm : List String := ["ADD", "SUB", "SLL", "SLT", "SLTU", "XOR", "SRL", "SRA", "OR", "AND", "MUL", "MULH", "MULHSU", "MULHU", "DIV", "DIVU", "REM", "REMU", "ADDI", "SLTI", "SLTIU", "XORI", "ORI", "ANDI", "SLLI", "SRLI", "SRAI", "LB", "LH", "LW", "LBU", "LHU", "JALR", "SB", "SH", "SW", "LUI", "AUIPC", "BEQ", "BNE", "BLT", "BGE", "BLTU", "BGEU", "JAL", "SC_W", "AMOSWAP_W", "AMOADD_W", "AMOXOR_W", "AMOAND_W", "AMOOR_W", "AMOMIN_W", "AMOMAX_W", "AMOMINU_W", "AMOMAXU_W", "LR_W", "RDCYCLE", "RDTIME", "RDINSTRET", "RDCYCLEH", "RDTIMEH", "RDINSTRETH", "FENCE", "FENCE_I", "ECALL", "EBREAK", "C_ADDI4SPN", "C_LW", "C_SW", "C_NOP", "C_ADDI", "C_JAL", "C_J", "C_LI", "C_ADDI16SP", "C_LUI", "C_SRLI", "C_SRAI", "C_ANDI", "C_SUB", "C_XOR", "C_OR", "C_AND", "C_BEQZ", "C_BNEZ", "C_SLLI", "C_LWSP", "C_JR", "C_MV", "C_EBREAK", "C_JALR", "C_ADD", "C_SWSP", "NOP", "MV", "NOT", "NEG", "SEQZ", "SNEZ", "SLTZ", "SGTZ", "JR", "RET", "CALL", "J", "TAIL", "BEQZ", "BNEZ", "BGEZ", "BLTZ", "BLEZ", "BGTZ", "BGT", "BLE", "BGTU", "BLEU", "LA", "LI", "D_TEXT", "D_DATA", "D_EQU", "D_BYTE", "D_HALF", "D_WORD", "D_ASCII", "D_ASCIZ", "D_SPACE", "D_ALIGN"]
abbrev st_o (j : Nat) : Term := .static "LineAssembler$Op" (st_nm.getD j "") "LLineAssembler$Op;"
abbrev st_all : Term := .static "LineAssembler$Op" "ALL" "[LLineAssembler$Op;"
def needA (j : Nat) : List Cond := [.eq (.elem st_all (.int (Int32.ofNat j))) (st_o j)]
def needO (j : Nat) : List Cond := [.exactly (st_o j) "LineAssembler$Op", .eq (.field (st_o j) "LineAssembler$Op" "spelling" "Ljava/lang/String;") (st_t (ex_spelling.getD j 0)), .eq (.field (st_o j) "LineAssembler$Op" "role" "I") (.int (ex_role.getD j 0)), .eq (.field (st_o j) "LineAssembler$Op" "shape" "Ljava/lang/String;") (st_t (ex_shape.getD j 0)), .eq (.field (st_o j) "LineAssembler$Op" "word" "I") (.int (ex_word.getD j 0))]
set_option maxRecDepth 100000 in
set_option maxHeartbeats 4000000 in
theorem st_S : sbq (flatC narrow_1) ((List.range 188).flatMap needS) = true := by decide +kernel
set_option maxRecDepth 100000 in
set_option maxHeartbeats 4000000 in
theorem st_A : sbq (flatC narrow_1) ((List.range 128).flatMap needA) = true := by decide +kernel
set_option maxRecDepth 100000 in
set_option maxHeartbeats 4000000 in
theorem st_O : sbq (flatC narrow_1) ((List.range 128).flatMap needO) = true := by decide +kernel
set_option maxRecDepth 100000 in
set_option maxHeartbeats 4000000 in
theorem st_SR : sbq tables_1 ((List.range 188).map (fun i => Cond.stringRef (st_R i).1 (st_R i).2.1 (st_R i).2.2)) = true := by decide +kernel
theorem st_lt : ∀ j, j < 128 → ex_spelling.getD j 0 < 188 ∧ ex_shape.getD j 0 < 188 := by decide +kernel
theorem st_len : ∀ i, i < 188 → ex_len.getD i 0 < 2 ^ 31 := by decide +kernel
theorem st_RL : ∀ (i : Nat) (r : String × Nat × String), ex_RL[i]? = some r → i < 188 ∧ r = st_R i := by
  intro i r h
  have h1 : i < ex_RL.length := (List.getElem?_eq_some_iff.mp h).1
  have h2 : ex_RL.length = 188 := by decide +kernel
  refine ⟨by omega, ?_⟩
  show r = ex_RL.getD i ("", 0, "")
  rw [List.getD_eq_getElem?_getD, h]
  rfl
theorem tb_8 : (Jvm.Cond.initialized "LineAssembler$Op") ∈ lw_tbl := List.mem_append_right _ (show _ ∈ tables_1 from List.mem_append_left _ (List.mem_of_getElem? (i := 8) (by decide +kernel)))
theorem tb_9 : (Jvm.Cond.initialized "java/lang/String") ∈ lw_tbl := List.mem_append_right _ (show _ ∈ tables_1 from List.mem_append_left _ (List.mem_of_getElem? (i := 9) (by decide +kernel)))
theorem tb_11 : (Jvm.Cond.initialized "jdk/internal/util/Preconditions") ∈ lw_tbl := List.mem_append_right _ (show _ ∈ tables_1 from List.mem_append_left _ (List.mem_of_getElem? (i := 11) (by decide +kernel)))
theorem tb_17 : (Jvm.Cond.initialized "java/util/ArrayList") ∈ lw_tbl := List.mem_append_right _ (show _ ∈ tables_1 from List.mem_append_left _ (List.mem_of_getElem? (i := 17) (by decide +kernel)))
theorem tb_24 : (Jvm.Cond.initialized "java/lang/Throwable") ∈ lw_tbl := List.mem_append_right _ (show _ ∈ tables_1 from List.mem_append_left _ (List.mem_of_getElem? (i := 24) (by decide +kernel)))
theorem tb_39 : (Jvm.Cond.instantiable "LineAssembler" (10 : Nat)) ∈ lw_tbl := List.mem_append_right _ (show _ ∈ tables_1 from List.mem_append_left _ (List.mem_of_getElem? (i := 39) (by decide +kernel)))
theorem tb_47 : (Jvm.Cond.instantiable "LineAssembler$Row" (2 : Nat)) ∈ lw_tbl := List.mem_append_right _ (show _ ∈ tables_1 from List.mem_append_left _ (List.mem_of_getElem? (i := 47) (by decide +kernel)))
theorem tb_48 : (Jvm.Cond.methodLinkNest "LineAssembler" (9 : Nat) ({ cls := "LineAssembler$Row", name := "<init>", desc := "()V" } : Jvm.MethodName) "LineAssembler") ∈ lw_tbl := List.mem_append_right _ (show _ ∈ tables_1 from List.mem_append_left _ (List.mem_of_getElem? (i := 48) (by decide +kernel)))
theorem tb_63 : (Jvm.Cond.arrayClass Jvm.ClassFile.FieldType.int) ∈ lw_tbl := List.mem_append_right _ (show _ ∈ tables_1 from List.mem_append_left _ (List.mem_of_getElem? (i := 63) (by decide +kernel)))
theorem tb_65 : (Jvm.Cond.instantiable "LineAssembler$Names" (15 : Nat)) ∈ lw_tbl := List.mem_append_right _ (show _ ∈ tables_1 from List.mem_append_left _ (List.mem_of_getElem? (i := 65) (by decide +kernel)))
theorem tb_71 : (Jvm.Cond.methodLinkNest "LineAssembler$Names" (9 : Nat) ({ cls := "LineAssembler$Row", name := "<init>", desc := "()V" } : Jvm.MethodName) "LineAssembler") ∈ lw_tbl := List.mem_append_right _ (show _ ∈ tables_1 from List.mem_append_left _ (List.mem_of_getElem? (i := 71) (by decide +kernel)))
theorem tb_92 : (Jvm.Cond.fieldLinkNest "LineAssembler$Names" (52 : Nat) "LineAssembler$Op" "ALL" "[LLineAssembler$Op;" "LineAssembler") ∈ lw_tbl := List.mem_append_right _ (show _ ∈ tables_1 from List.mem_append_left _ (List.mem_of_getElem? (i := 92) (by decide +kernel)))
theorem tb_93 : (Jvm.Cond.laysStatic "LineAssembler$Op" "ALL" "[LLineAssembler$Op;") ∈ lw_tbl := List.mem_append_right _ (show _ ∈ tables_1 from List.mem_append_left _ (List.mem_of_getElem? (i := 93) (by decide +kernel)))
theorem tb_116 : (Jvm.Cond.laysStatic "java/lang/String" "COMPACT_STRINGS" "Z") ∈ lw_tbl := List.mem_append_right _ (show _ ∈ tables_1 from List.mem_append_left _ (List.mem_of_getElem? (i := 116) (by decide +kernel)))
theorem tb_132 : (Jvm.Cond.laysStatic "jdk/internal/util/Preconditions" "SIOOBE_FORMATTER" "Ljava/util/function/BiFunction;") ∈ lw_tbl := List.mem_append_right _ (show _ ∈ tables_1 from List.mem_append_left _ (List.mem_of_getElem? (i := 132) (by decide +kernel)))
theorem tb_269 : (Jvm.Cond.arrayClass Jvm.ClassFile.FieldType.byte) ∈ lw_tbl := List.mem_append_right _ (show _ ∈ tables_1 from List.mem_append_right _ (List.mem_append_left _ (List.mem_of_getElem? (i := 29) (by decide +kernel))))
theorem tb_271 : (Jvm.Cond.instantiable "LineAssembler$Tokens" (6 : Nat)) ∈ lw_tbl := List.mem_append_right _ (show _ ∈ tables_1 from List.mem_append_right _ (List.mem_append_left _ (List.mem_of_getElem? (i := 31) (by decide +kernel))))
theorem tb_272 : (Jvm.Cond.methodLinkNest "LineAssembler" (25 : Nat) ({ cls := "LineAssembler$Tokens", name := "<init>", desc := "()V" } : Jvm.MethodName) "LineAssembler") ∈ lw_tbl := List.mem_append_right _ (show _ ∈ tables_1 from List.mem_append_right _ (List.mem_append_left _ (List.mem_of_getElem? (i := 32) (by decide +kernel))))
theorem tb_297 : (Jvm.Cond.instantiable "LineAssembler$Program" (12 : Nat)) ∈ lw_tbl := List.mem_append_right _ (show _ ∈ tables_1 from List.mem_append_right _ (List.mem_append_left _ (List.mem_of_getElem? (i := 57) (by decide +kernel))))
theorem tb_298 : (Jvm.Cond.methodLinkNest "LineAssembler" (35 : Nat) ({ cls := "LineAssembler$Program", name := "<init>", desc := "()V" } : Jvm.MethodName) "LineAssembler") ∈ lw_tbl := List.mem_append_right _ (show _ ∈ tables_1 from List.mem_append_right _ (List.mem_append_left _ (List.mem_of_getElem? (i := 58) (by decide +kernel))))
theorem tb_303 : (Jvm.Cond.methodLinkNest "LineAssembler$Program" (11 : Nat) ({ cls := "LineAssembler$Row", name := "<init>", desc := "()V" } : Jvm.MethodName) "LineAssembler") ∈ lw_tbl := List.mem_append_right _ (show _ ∈ tables_1 from List.mem_append_right _ (List.mem_append_left _ (List.mem_of_getElem? (i := 63) (by decide +kernel))))
theorem tb_305 : (Jvm.Cond.instantiable "java/util/ArrayList" (3 : Nat)) ∈ lw_tbl := List.mem_append_right _ (show _ ∈ tables_1 from List.mem_append_right _ (List.mem_append_left _ (List.mem_of_getElem? (i := 65) (by decide +kernel))))
theorem tb_317 : (Jvm.Cond.laysStatic "java/util/ArrayList" "DEFAULTCAPACITY_EMPTY_ELEMENTDATA" "[Ljava/lang/Object;") ∈ lw_tbl := List.mem_append_right _ (show _ ∈ tables_1 from List.mem_append_right _ (List.mem_append_left _ (List.mem_of_getElem? (i := 77) (by decide +kernel))))
theorem tb_331 : (Jvm.Cond.instantiable "LineAssembler$Item" (9 : Nat)) ∈ lw_tbl := List.mem_append_right _ (show _ ∈ tables_1 from List.mem_append_right _ (List.mem_append_left _ (List.mem_of_getElem? (i := 91) (by decide +kernel))))
theorem tb_332 : (Jvm.Cond.methodLinkNest "LineAssembler$Program" (53 : Nat) ({ cls := "LineAssembler$Item", name := "<init>", desc := "()V" } : Jvm.MethodName) "LineAssembler") ∈ lw_tbl := List.mem_append_right _ (show _ ∈ tables_1 from List.mem_append_right _ (List.mem_append_left _ (List.mem_of_getElem? (i := 92) (by decide +kernel))))
theorem tb_433 : (Jvm.Cond.instantiable "LineAssembler$Lexer" (5 : Nat)) ∈ lw_tbl := List.mem_append_right _ (show _ ∈ tables_1 from List.mem_append_right _ (List.mem_append_left _ (List.mem_of_getElem? (i := 193) (by decide +kernel))))
theorem tb_455 : (Jvm.Cond.instantiable "LineAssembler$Formulas" (13 : Nat)) ∈ lw_tbl := List.mem_append_right _ (show _ ∈ tables_1 from List.mem_append_right _ (List.mem_append_left _ (List.mem_of_getElem? (i := 215) (by decide +kernel))))
theorem tb_461 : (Jvm.Cond.methodLinkNest "LineAssembler$Formulas" (21 : Nat) ({ cls := "LineAssembler$Row", name := "<init>", desc := "()V" } : Jvm.MethodName) "LineAssembler") ∈ lw_tbl := List.mem_append_right _ (show _ ∈ tables_1 from List.mem_append_right _ (List.mem_append_left _ (List.mem_of_getElem? (i := 221) (by decide +kernel))))
theorem tb_506 : (Jvm.Cond.instantiable "LineAssembler$Parser" (4 : Nat)) ∈ lw_tbl := List.mem_append_right _ (show _ ∈ tables_1 from List.mem_append_right _ (List.mem_append_right _ (List.mem_append_left _ (List.mem_of_getElem? (i := 26) (by decide +kernel)))))
theorem tb_525 : (Jvm.Cond.instantiable "LineAssembler$Encoder" (6 : Nat)) ∈ lw_tbl := List.mem_append_right _ (show _ ∈ tables_1 from List.mem_append_right _ (List.mem_append_right _ (List.mem_append_left _ (List.mem_of_getElem? (i := 45) (by decide +kernel)))))
theorem tb_531 : (Jvm.Cond.methodLinkNest "LineAssembler$Encoder" (11 : Nat) ({ cls := "LineAssembler$Row", name := "<init>", desc := "()V" } : Jvm.MethodName) "LineAssembler") ∈ lw_tbl := List.mem_append_right _ (show _ ∈ tables_1 from List.mem_append_right _ (List.mem_append_right _ (List.mem_append_left _ (List.mem_of_getElem? (i := 51) (by decide +kernel)))))
theorem tb_619 : (Jvm.Cond.castable "java/lang/IllegalArgumentException" "java/lang/IllegalArgumentException") ∈ lw_tbl := List.mem_append_right _ (show _ ∈ tables_1 from List.mem_append_right _ (List.mem_append_right _ (List.mem_append_left _ (List.mem_of_getElem? (i := 139) (by decide +kernel)))))
theorem tb_621 : (Jvm.Cond.declares ({ cls := "java/lang/RuntimeException", name := "<init>", desc := "(Ljava/lang/String;)V" } : Jvm.MethodName)) ∈ lw_tbl := List.mem_append_right _ (show _ ∈ tables_1 from List.mem_append_right _ (List.mem_append_right _ (List.mem_append_left _ (List.mem_of_getElem? (i := 141) (by decide +kernel)))))
theorem tb_623 : (Jvm.Cond.declares ({ cls := "java/lang/Exception", name := "<init>", desc := "(Ljava/lang/String;)V" } : Jvm.MethodName)) ∈ lw_tbl := List.mem_append_right _ (show _ ∈ tables_1 from List.mem_append_right _ (List.mem_append_right _ (List.mem_append_left _ (List.mem_of_getElem? (i := 143) (by decide +kernel)))))
theorem tb_625 : (Jvm.Cond.declares ({ cls := "java/lang/Throwable", name := "<init>", desc := "(Ljava/lang/String;)V" } : Jvm.MethodName)) ∈ lw_tbl := List.mem_append_right _ (show _ ∈ tables_1 from List.mem_append_right _ (List.mem_append_right _ (List.mem_append_left _ (List.mem_of_getElem? (i := 145) (by decide +kernel)))))
theorem tb_644 : (Jvm.Cond.laysStatic "java/lang/Throwable" "UNASSIGNED_STACK" "[Ljava/lang/StackTraceElement;") ∈ lw_tbl := List.mem_append_right _ (show _ ∈ tables_1 from List.mem_append_right _ (List.mem_append_right _ (List.mem_append_left _ (List.mem_of_getElem? (i := 164) (by decide +kernel)))))
theorem tb_646 : (Jvm.Cond.laysStatic "java/lang/Throwable" "SUPPRESSED_SENTINEL" "Ljava/util/List;") ∈ lw_tbl := List.mem_append_right _ (show _ ∈ tables_1 from List.mem_append_right _ (List.mem_append_right _ (List.mem_append_left _ (List.mem_of_getElem? (i := 166) (by decide +kernel)))))
theorem tb_815 : (Jvm.Cond.instantiable "java/lang/String" (4 : Nat)) ∈ lw_tbl := List.mem_append_right _ (show _ ∈ tables_1 from List.mem_append_right _ (List.mem_append_right _ (List.mem_append_right _ (List.mem_append_left _ (List.mem_of_getElem? (i := 95) (by decide +kernel))))))
theorem tb_975 : (Jvm.Cond.arrayOver (Jvm.ClassFile.FieldType.object "java/lang/Object")) ∈ lw_tbl := List.mem_append_right _ (show _ ∈ tables_1 from List.mem_append_right _ (List.mem_append_right _ (List.mem_append_right _ (List.mem_append_right _ (List.mem_append_left _ (List.mem_of_getElem? (i := 15) (by decide +kernel)))))))
theorem tb_1127 : (Jvm.Cond.fieldLinkNest "LineAssembler$Parser" (94 : Nat) "LineAssembler$Op" "ALL" "[LLineAssembler$Op;" "LineAssembler") ∈ lw_tbl := List.mem_append_right _ (show _ ∈ tables_1 from List.mem_append_right _ (List.mem_append_right _ (List.mem_append_right _ (List.mem_append_right _ (List.mem_append_left _ (List.mem_of_getElem? (i := 167) (by decide +kernel)))))))
theorem tb_1416 : (Jvm.Cond.castable "java/lang/IllegalStateException" "java/lang/IllegalStateException") ∈ lw_tbl := List.mem_append_right _ (show _ ∈ tables_1 from List.mem_append_right _ (List.mem_append_right _ (List.mem_append_right _ (List.mem_append_right _ (List.mem_append_right _ (List.mem_append_left _ (List.mem_of_getElem? (i := 216) (by decide +kernel))))))))
theorem tb_1443 : (Jvm.Cond.castable "java/lang/IndexOutOfBoundsException" "java/lang/IndexOutOfBoundsException") ∈ lw_tbl := List.mem_append_right _ (show _ ∈ tables_1 from List.mem_append_right _ (List.mem_append_right _ (List.mem_append_right _ (List.mem_append_right _ (List.mem_append_right _ (List.mem_append_right _ (List.mem_append_left _ (List.mem_of_getElem? (i := 3) (by decide +kernel)))))))))
theorem tb_1478 : (Jvm.Cond.instantiable "LineAssemblerModel" (40 : Nat)) ∈ lw_tbl := List.mem_append_right _ (show _ ∈ tables_1 from List.mem_append_right _ (List.mem_append_right _ (List.mem_append_right _ (List.mem_append_right _ (List.mem_append_right _ (List.mem_append_right _ (List.mem_append_left _ (List.mem_of_getElem? (i := 38) (by decide +kernel)))))))))
theorem tb_1778 : (Jvm.Cond.arrayClass Jvm.ClassFile.FieldType.long) ∈ lw_tbl := List.mem_append_right _ (show _ ∈ tables_1 from List.mem_append_right _ (List.mem_append_right _ (List.mem_append_right _ (List.mem_append_right _ (List.mem_append_right _ (List.mem_append_right _ (List.mem_append_right _ (List.mem_append_left _ (List.mem_of_getElem? (i := 98) (by decide +kernel))))))))))
theorem tb_1779 : (Jvm.Cond.arrayClass Jvm.ClassFile.FieldType.char) ∈ lw_tbl := List.mem_append_right _ (show _ ∈ tables_1 from List.mem_append_right _ (List.mem_append_right _ (List.mem_append_right _ (List.mem_append_right _ (List.mem_append_right _ (List.mem_append_right _ (List.mem_append_right _ (List.mem_append_left _ (List.mem_of_getElem? (i := 99) (by decide +kernel))))))))))
theorem tb_2180 : (Jvm.Cond.declares ({ cls := "java/lang/Object", name := "getClass", desc := "()Ljava/lang/Class;" } : Jvm.MethodName)) ∈ lw_tbl := List.mem_append_right _ (show _ ∈ tables_1 from List.mem_append_right _ (List.mem_append_right _ (List.mem_append_right _ (List.mem_append_right _ (List.mem_append_right _ (List.mem_append_right _ (List.mem_append_right _ (List.mem_append_right _ (List.mem_append_right _ (List.mem_append_left _ (List.mem_of_getElem? (i := 20) (by decide +kernel))))))))))))
theorem tb_2186 : (Jvm.Cond.castable "LineAssembler$Item" "java/lang/Object") ∈ lw_tbl := List.mem_append_right _ (show _ ∈ tables_1 from List.mem_append_right _ (List.mem_append_right _ (List.mem_append_right _ (List.mem_append_right _ (List.mem_append_right _ (List.mem_append_right _ (List.mem_append_right _ (List.mem_append_right _ (List.mem_append_right _ (List.mem_append_left _ (List.mem_of_getElem? (i := 26) (by decide +kernel))))))))))))
theorem st_ev {args : Array Value} {s : State} {own : String} {k a : Nat} (h : (Term.string own k).eval args s none [] s = some (.ref a)) : (Term.string own k).eval #[] s none [] s = some (.ref a) := h
set_option maxHeartbeats 4000000 in
theorem st_EX {args : Array Value} {s : State} {A : Nat → Prop} (dA : Nat → ClassId) (hts : ∀ w ∈ lw_tbl, w.before args s = true) (hg : (Cond.and given_1 narrow_1).before args s = true) (hA : ∀ a : Nat, a < s.heap.size → ¬ A a) : ∃ z : Nat → Nat, EX dA z A s s.heap := by
  have hn : ∀ w ∈ flatC narrow_1, w.before args s = true := fun w hw => flat_of_before _ hg w (show w ∈ flatC given_1 ++ flatC narrow_1 from List.mem_append_right _ hw)
  have hS : ∀ i, i < 188 → ∀ w ∈ needS i, w.before args s = true := fun i hi w hw => hn w (sbq_mem _ _ st_S w (List.mem_flatMap.mpr ⟨i, List.mem_range.mpr hi, hw⟩))
  have hAl : ∀ j, j < 128 → (Cond.eq (.elem st_all (.int (Int32.ofNat j))) (st_o j)).before args s = true := fun j hj => hn _ (sbq_mem _ _ st_A _ (List.mem_flatMap.mpr ⟨j, List.mem_range.mpr hj, List.mem_cons_self⟩))
  have hO : ∀ j, j < 128 → ∀ w ∈ needO j, w.before args s = true := fun j hj w hw => hn w (sbq_mem _ _ st_O w (List.mem_flatMap.mpr ⟨j, List.mem_range.mpr hj, hw⟩))
  have h0 : ∀ i : Nat, ∃ q : Nat × Nat, i < 188 → (st_t i).eval args s none [] s = some (.ref q.1) ∧ va_O "java/lang/String" q.1 A s s.heap ∧ va_OF "java/lang/String" "coder" "B" (.int 0) q.1 A s s.heap ∧ va_OF "java/lang/String" "value" "[B" (.ref q.2) q.1 A s s.heap ∧ va_T .byte q.2 (ex_len.getD i 0) (fun j => .int ((ex_byt.getD i []).getD j 0)) A s s.heap := by
    intro i
    by_cases hi : i < 188
    · have hx := hS i hi _ (show Cond.exactly (st_t i) "java/lang/String" ∈ needS i from List.mem_append_left _ List.mem_cons_self)
      obtain ⟨a, c, cA, kA, q1, q2, q3, q4, q5, q6, -⟩ := Cond.exactly_spec (args := args) (first := s) (o := none) (s := s) (idx := []) (t := st_t i) (cls := "java/lang/String") hx
      obtain ⟨t, ht, hT⟩ := va_Tof (tm := st_v (st_t i)) (ty := .byte) (N := ex_len.getD i 0) (f := fun j => .int ((ex_byt.getD i []).getD j 0)) (A := A) (st_len i hi) (hS i hi _ (List.mem_append_left _ (.tail _ (.tail _ (.head _))))) (va_eqt (hS i hi _ (List.mem_append_left _ (.tail _ (.tail _ (.tail _ (.head _))))))) (fun j hj => va_eqt (hS i hi _ (List.mem_append_right _ (List.mem_map.mpr ⟨j, List.mem_range.mpr hj, rfl⟩)))) hA
      exact ⟨(a, t), fun _ => ⟨q1, va_Oof hx q1 hA, vk_OFof q1 (va_eqt (hS i hi _ (List.mem_append_left _ (.tail _ (.head _))))) hA, vk_OFof q1 ht hA, hT⟩⟩
    · exact ⟨(0, 0), fun h => absurd h hi⟩
  obtain ⟨ad, had⟩ := Classical.axiomOfChoice h0
  have h1 : ∀ j : Nat, ∃ q : Nat, j < 128 → (st_o j).eval args s none [] s = some (.ref q) ∧ va_O "LineAssembler$Op" q A s s.heap ∧ va_OF "LineAssembler$Op" "spelling" "Ljava/lang/String;" (.ref (ad (ex_spelling.getD j 0)).1) q A s s.heap ∧ va_OF "LineAssembler$Op" "role" "I" (.int (ex_role.getD j 0)) q A s s.heap ∧ va_OF "LineAssembler$Op" "shape" "Ljava/lang/String;" (.ref (ad (ex_shape.getD j 0)).1) q A s s.heap ∧ va_OF "LineAssembler$Op" "word" "I" (.int (ex_word.getD j 0)) q A s s.heap := by
    intro j
    by_cases hj : j < 128
    · have hx := hO j hj _ (show Cond.exactly (st_o j) "LineAssembler$Op" ∈ needO j from .head _)
      obtain ⟨a, c, cA, kA, q1, q2, q3, q4, q5, q6, -⟩ := Cond.exactly_spec (args := args) (first := s) (o := none) (s := s) (idx := []) (t := st_o j) (cls := "LineAssembler$Op") hx
      exact ⟨a, fun _ => ⟨q1, va_Oof hx q1 hA, vk_OFof q1 (va_eqv (hO j hj _ (.tail _ (.head _))) (had _ (st_lt j hj).1).1) hA, vk_OFof q1 (va_eqt (hO j hj _ (.tail _ (.tail _ (.head _))))) hA, vk_OFof q1 (va_eqv (hO j hj _ (.tail _ (.tail _ (.tail _ (.head _))))) (had _ (st_lt j hj).2).1) hA, vk_OFof q1 (va_eqt (hO j hj _ (.tail _ (.tail _ (.tail _ (.tail _ (.head _))))))) hA⟩⟩
    · exact ⟨0, fun h => absurd h hj⟩
  obtain ⟨oa, hoa⟩ := Classical.axiomOfChoice h1
  obtain ⟨tA, htA, hTA⟩ := va_Tof (args := args) (s := s) (tm := st_all) (ty := .object "LineAssembler$Op") (N := 128) (f := fun j => .ref (oa j)) (A := A) (by decide) (hn _ (by decide +kernel)) (va_eqt (hn _ (by decide +kernel))) (fun j hj => va_eqv (hAl j hj) (hoa j hj).1) hA
  obtain ⟨t0, ht0, hT0⟩ := va_Tof (args := args) (s := s) (tm := .static "java/util/ArrayList" "DEFAULTCAPACITY_EMPTY_ELEMENTDATA" "[Ljava/lang/Object;") (ty := .object "java/lang/Object") (N := 0) (f := fun _ => .null) (A := A) (by decide) (hn _ (by decide +kernel)) (va_eqt (hn _ (by decide +kernel))) (fun j hj => absurd hj (Nat.not_lt_zero j)) hA
  obtain ⟨mi, hmi⟩ := va_Mi.of (C := "[Ljava/lang/Object;") (hn _ (by decide +kernel))
  have hz : ∃ z : Nat → Nat, z 0 = t0 ∧ z 1 = mi ∧ z 2 = tA ∧ (∀ i, i < 188 → sK z i = (ad i).1) ∧ (∀ i, i < 188 → sV z i = (ad i).2) ∧ ∀ j, j < 128 → oP z j = oa j := by
    refine ⟨fun k => if k = 0 then t0 else if k = 1 then mi else if k = 2 then tA else if k < 2000 then (ad (k - 1000)).1 else if k < 3000 then (ad (k - 2000)).2 else oa (k - 3000), rfl, rfl, rfl, fun i hi => ?_, fun i hi => ?_, fun j hj => ?_⟩
    · show (if 1000 + i = 0 then t0 else if 1000 + i = 1 then mi else if 1000 + i = 2 then tA else if 1000 + i < 2000 then (ad (1000 + i - 1000)).1 else _) = _
      rw [if_neg (by omega), if_neg (by omega), if_neg (by omega), if_pos (by omega), Nat.add_sub_cancel_left]
    · show (if 2000 + i = 0 then t0 else if 2000 + i = 1 then mi else if 2000 + i = 2 then tA else if 2000 + i < 2000 then _ else if 2000 + i < 3000 then (ad (2000 + i - 2000)).2 else _) = _
      rw [if_neg (by omega), if_neg (by omega), if_neg (by omega), if_neg (by omega), if_pos (by omega), Nat.add_sub_cancel_left]
    · show (if 3000 + j = 0 then t0 else if 3000 + j = 1 then mi else if 3000 + j = 2 then tA else if 3000 + j < 2000 then _ else if 3000 + j < 3000 then _ else oa (3000 + j - 3000)) = _
      rw [if_neg (by omega), if_neg (by omega), if_neg (by omega), if_neg (by omega), if_neg (by omega), Nat.add_sub_cancel_left]
  obtain ⟨z, z0, z1, z2, zk, zv, zo⟩ := hz
  refine ⟨z, ?_, ?_, ?_, ?_, ?_, ?_, ?_, ?_, ?_, ?_, ?_, ?_, ?_, ?_, ?_, ?_, ?_, ?_⟩
  · refine al_cons (va_Nw.of rfl (hts _ tb_48)) (al_cons (va_Nw.of rfl (hts _ tb_71)) (al_cons (va_Nw.of rfl (hts _ tb_272)) (al_cons (va_Nw.of rfl (hts _ tb_298)) (al_cons (va_Nw.of rfl (hts _ tb_303)) (al_cons (va_Nw.of rfl (hts _ tb_332)) (al_cons (va_Nw.of rfl (hts _ tb_461)) (al_cons (va_Nw.of rfl (hts _ tb_531)) (al_cons (va_Nw.of rfl (hts _ tb_92)) (al_cons (va_Nw.of rfl (hts _ tb_1127)) (al_cons (va_Nw.of rfl (hts _ tb_2186)) (al_cons (va_Nw.of rfl (hts _ tb_619)) (al_cons (va_Nw.of rfl (hts _ tb_1416)) (al_cons (va_Nw.of rfl (hts _ tb_1443)) (al_cons (va_Nw.of rfl (hts _ tb_621)) (al_cons (va_Nw.of rfl (hts _ tb_623)) (al_cons (va_Nw.of rfl (hts _ tb_625)) (al_nil)))))))))))))))))
  · exact va_AO.of (hts _ tb_975)
  · rw [z0]; exact va_Zof (hts _ tb_317) (hts _ tb_17) ht0 hA
  · rw [z0]; exact hT0
  · rw [z1]; exact hmi
  · exact va_Dc.of (hts _ tb_2180)
  · exact va_Zof (hts _ tb_116) (hts _ tb_9) (va_eqi (hn _ (by decide +kernel))) hA
  · exact va_Zqof (hts _ tb_132) (hts _ tb_11) (hn _ (by decide +kernel)) hA
  · intro i hi
    obtain ⟨q1, q2, q3, q4, q5⟩ := had i hi
    unfold EXs
    rw [zk i hi, zv i hi]
    exact ⟨q2, q3, q4, q5⟩
  · intro i r hr
    obtain ⟨hi, rfl⟩ := st_RL i r hr
    rw [zk i hi]
    exact vk_R.of (A := args) (hts _ (List.mem_append_right _ (sbq_mem _ _ st_SR _ (List.mem_map.mpr ⟨i, List.mem_range.mpr hi, rfl⟩)))) (had i hi).1
  · rw [z2]; exact va_Zof (hts _ tb_93) (hts _ tb_8) htA hA
  · rw [z2]
    obtain ⟨cell, g1, g2, g3, g4, g5, g6, g7⟩ := hTA
    exact ⟨cell, g1, g2, g3, g4, g5, fun j hj => by show cell.slots[j]? = some (.ref (oP z j)); rw [zo j hj]; exact g6 j hj, g7⟩
  · intro j hj
    obtain ⟨q1, q2, q3, q4, q5, q6⟩ := hoa j hj
    unfold EXo
    rw [zo j hj, zk _ (st_lt j hj).1, zk _ (st_lt j hj).2]
    exact ⟨q2, q3, q4, q5, q6⟩
  · exact va_Zqof (hts _ tb_644) (hts _ tb_24) (hn _ (by decide +kernel)) hA
  · exact va_Zqof (hts _ tb_646) (hts _ tb_24) (hn _ (by decide +kernel)) hA
  · exact ex_LS.of (hts _ tb_644) hA
  · exact ex_LS.of (hts _ tb_646) hA
  · have hv := Cond.holds_not_iff.mp (hn (Cond.not (.castable "java/lang/IllegalArgumentException" "java/lang/IllegalStateException")) (by decide +kernel))
    simp only [Cond.value] at hv
    cases e1 : s.vm.findClass "java/lang/IllegalArgumentException" with
    | none => simp [e1] at hv
    | some c1 =>
      cases e2 : s.vm.findClass "java/lang/IllegalStateException" with
      | none => simp [e1, e2] at hv
      | some c2 => exact ⟨c1, c2, e1, e2, by simpa [e1, e2] using hv⟩
/-! the classes and the arrays' classes -/
theorem st_arr {args : Array Value} {s : State} {ty : FieldType} (h : (Cond.arrayClass ty).before args s = true) (hp : ∀ C, ty ≠ .object C) : ∃ cA : ClassId, ArrOfT s cA ty ∧ va_RA s cA ty := by
  obtain ⟨cA, kA, comp, h1, h2, h3⟩ := Cond.arrayClass_spec h
  refine ⟨cA, fun n z => ⟨(fun k h => by cases h), kA, h2, comp, h3⟩, ?_⟩
  cases ty with
  | object C => exact absurd rfl (hp C)
  | _ => exact h1
theorem st_K {args : Array Value} {s : State} (hts : ∀ w ∈ lw_tbl, w.before args s = true) : ∃ (D : va_G) (dA : Nat → ClassId), va_K D classes (tyC dA) s := by
  have hg : ∀ w ∈ lw_gd, w.before args s = true := fun w h => hts w (List.mem_filter.mp h).1
  obtain ⟨c0, s0, h0⟩ := u_known (C := RM) (T := FM) (N := 40) (n := 40) hg iM (hts _ tb_1478)
  obtain ⟨c1, s1, h1⟩ := u_known (C := R_Row) (T := F_Row) (N := 2) (n := 2) hg i_Row (hts _ tb_47)
  obtain ⟨c2, s2, h2⟩ := u_known (C := R_Nam) (T := F_Nam) (N := 15) (n := 15) hg i_Nam (hts _ tb_65)
  obtain ⟨c3, s3, h3⟩ := u_known (C := R_Tok) (T := F_Tok) (N := 6) (n := 6) hg i_Tok (hts _ tb_271)
  obtain ⟨c4, s4, h4⟩ := u_known (C := R_Itm) (T := F_Itm) (N := 9) (n := 9) hg i_Itm (hts _ tb_331)
  obtain ⟨c5, s5, h5⟩ := u_known (C := R_Prg) (T := F_Prg) (N := 12) (n := 12) hg i_Prg (hts _ tb_297)
  obtain ⟨c6, s6, h6⟩ := u_known (C := R_Lex) (T := F_Lex) (N := 5) (n := 5) hg i_Lex (hts _ tb_433)
  obtain ⟨c7, s7, h7⟩ := u_known (C := R_Frm) (T := F_Frm) (N := 13) (n := 13) hg i_Frm (hts _ tb_455)
  obtain ⟨c8, s8, h8⟩ := u_known (C := R_Par) (T := F_Par) (N := 4) (n := 4) hg i_Par (hts _ tb_506)
  obtain ⟨c9, s9, h9⟩ := u_known (C := R_Enc) (T := F_Enc) (N := 6) (n := 6) hg i_Enc (hts _ tb_525)
  obtain ⟨c10, s10, h10⟩ := u_known (C := R_Asm) (T := F_Asm) (N := 10) (n := 10) hg i_Asm (hts _ tb_39)
  obtain ⟨c11, s11, h11⟩ := u_known (C := R_Lst) (T := F_Lst) (N := 3) (n := 3) hg i_Lst (hts _ tb_305)
  obtain ⟨c12, s12, h12⟩ := u_known (C := R_Str) (T := F_Str) (N := 2) (n := 4) hg i_Str (hts _ tb_815)
  obtain ⟨a0, ha0⟩ := st_arr (hts _ tb_1778) (fun C h => by cases h)
  obtain ⟨a1, ha1⟩ := st_arr (hts _ tb_269) (fun C h => by cases h)
  obtain ⟨a2, ha2⟩ := st_arr (hts _ tb_63) (fun C h => by cases h)
  obtain ⟨a3, ha3⟩ := st_arr (hts _ tb_1779) (fun C h => by cases h)
  obtain ⟨comp, a4, kA, g1, g2, g3, g4, g5⟩ := Cond.arrayOver_spec (hts _ tb_975)
  refine ⟨(fun k => if k = 0 then c0 else if k = 1 then c1 else if k = 2 then c2 else if k = 3 then c3 else if k = 4 then c4 else if k = 5 then c5 else if k = 6 then c6 else if k = 7 then c7 else if k = 8 then c8 else if k = 9 then c9 else if k = 10 then c10 else if k = 11 then c11 else c12, fun k => if k = 0 then s0 else if k = 1 then s1 else if k = 2 then s2 else if k = 3 then s3 else if k = 4 then s4 else if k = 5 then s5 else if k = 6 then s6 else if k = 7 then s7 else if k = 8 then s8 else if k = 9 then s9 else if k = 10 then s10 else if k = 11 then s11 else s12), fun k => if k = 0 then a0 else if k = 1 then a1 else if k = 2 then a2 else if k = 3 then a3 else a4, ?_, ?_⟩
  · intro k q hq
    match k, hq with
    | 0, hq => cases hq; exact h0
    | 1, hq => cases hq; exact h1
    | 2, hq => cases hq; exact h2
    | 3, hq => cases hq; exact h3
    | 4, hq => cases hq; exact h4
    | 5, hq => cases hq; exact h5
    | 6, hq => cases hq; exact h6
    | 7, hq => cases hq; exact h7
    | 8, hq => cases hq; exact h8
    | 9, hq => cases hq; exact h9
    | 10, hq => cases hq; exact h10
    | 11, hq => cases hq; exact h11
    | 12, hq => cases hq; exact h12
    | k + 13, hq => simp [classes] at hq
  · intro k q hq
    match k, hq with
    | 0, hq => cases hq; exact ha0
    | 1, hq => cases hq; exact ha1
    | 2, hq => cases hq; exact ha2
    | 3, hq => cases hq; exact ha3
    | 4, hq => cases hq; exact ⟨fun n z => ⟨(fun k h => by cases h), kA, g3, comp, g4⟩, kA, comp, g3, g4, g1, g5⟩
    | k + 5, hq => simp at hq

