theorem qc_24 : (Jvm.Cond.initialized "java/lang/Throwable") ∈ lw_gd := uc_0 (List.mem_of_getElem? (i := 24) (by decide +kernel)) (by decide +kernel)
theorem qc_27 : (Jvm.Cond.initialized "java/lang/IllegalArgumentException") ∈ lw_gd := uc_0 (List.mem_of_getElem? (i := 27) (by decide +kernel)) (by decide +kernel)
theorem qc_32 : (Jvm.Cond.initialized "java/lang/IndexOutOfBoundsException") ∈ lw_gd := uc_0 (List.mem_of_getElem? (i := 32) (by decide +kernel)) (by decide +kernel)
theorem qc_37 : (Jvm.Cond.initialized "java/lang/IllegalStateException") ∈ lw_gd := uc_0 (List.mem_of_getElem? (i := 37) (by decide +kernel)) (by decide +kernel)
theorem qc_618 : (Jvm.Cond.instantiable "java/lang/IllegalArgumentException" (6 : Nat)) ∈ lw_gd := uc_2 (List.mem_of_getElem? (i := 138) (by decide +kernel)) (by decide +kernel)
theorem qc_626 : (Jvm.Cond.selects "java/lang/IllegalArgumentException" ({ cls := "java/lang/Throwable", name := "fillInStackTrace", desc := "(I)Ljava/lang/Throwable;" } : Jvm.MethodName) ({ cls := "java/lang/Throwable", name := "fillInStackTrace", desc := "(I)Ljava/lang/Throwable;" } : Jvm.MethodName)) ∈ lw_gd := uc_2 (List.mem_of_getElem? (i := 146) (by decide +kernel)) (by decide +kernel)
theorem qc_627 : (Jvm.Cond.selects "java/lang/IllegalArgumentException" ({ cls := "java/lang/Throwable", name := "fillInStackTrace", desc := "()Ljava/lang/Throwable;" } : Jvm.MethodName) ({ cls := "java/lang/Throwable", name := "fillInStackTrace", desc := "()Ljava/lang/Throwable;" } : Jvm.MethodName)) ∈ lw_gd := uc_2 (List.mem_of_getElem? (i := 147) (by decide +kernel)) (by decide +kernel)
theorem qc_628 : (Jvm.Cond.lays "java/lang/IllegalArgumentException" "java/lang/Throwable" "cause" "Ljava/lang/Throwable;") ∈ lw_gd := uc_2 (List.mem_of_getElem? (i := 148) (by decide +kernel)) (by decide +kernel)
theorem qc_629 : (Jvm.Cond.lays "java/lang/Throwable" "java/lang/Throwable" "cause" "Ljava/lang/Throwable;") ∈ lw_gd := uc_2 (List.mem_of_getElem? (i := 149) (by decide +kernel)) (by decide +kernel)
theorem qc_630 : (Jvm.Cond.lays "java/lang/IllegalArgumentException" "java/lang/Throwable" "stackTrace" "[Ljava/lang/StackTraceElement;") ∈ lw_gd := uc_2 (List.mem_of_getElem? (i := 150) (by decide +kernel)) (by decide +kernel)
theorem qc_631 : (Jvm.Cond.lays "java/lang/Throwable" "java/lang/Throwable" "stackTrace" "[Ljava/lang/StackTraceElement;") ∈ lw_gd := uc_2 (List.mem_of_getElem? (i := 151) (by decide +kernel)) (by decide +kernel)
theorem qc_632 : (Jvm.Cond.lays "java/lang/IllegalArgumentException" "java/lang/Throwable" "suppressedExceptions" "Ljava/util/List;") ∈ lw_gd := uc_2 (List.mem_of_getElem? (i := 152) (by decide +kernel)) (by decide +kernel)
theorem qc_633 : (Jvm.Cond.lays "java/lang/Throwable" "java/lang/Throwable" "suppressedExceptions" "Ljava/util/List;") ∈ lw_gd := uc_2 (List.mem_of_getElem? (i := 153) (by decide +kernel)) (by decide +kernel)
theorem qc_634 : (Jvm.Cond.lays "java/lang/IllegalArgumentException" "java/lang/Throwable" "detailMessage" "Ljava/lang/String;") ∈ lw_gd := uc_2 (List.mem_of_getElem? (i := 154) (by decide +kernel)) (by decide +kernel)
theorem qc_635 : (Jvm.Cond.lays "java/lang/Throwable" "java/lang/Throwable" "detailMessage" "Ljava/lang/String;") ∈ lw_gd := uc_2 (List.mem_of_getElem? (i := 155) (by decide +kernel)) (by decide +kernel)
theorem qc_636 : (Jvm.Cond.lays "java/lang/IllegalArgumentException" "java/lang/Throwable" "backtrace" "Ljava/lang/Object;") ∈ lw_gd := uc_2 (List.mem_of_getElem? (i := 156) (by decide +kernel)) (by decide +kernel)
theorem qc_637 : (Jvm.Cond.lays "java/lang/Throwable" "java/lang/Throwable" "backtrace" "Ljava/lang/Object;") ∈ lw_gd := uc_2 (List.mem_of_getElem? (i := 157) (by decide +kernel)) (by decide +kernel)
theorem qc_638 : (Jvm.Cond.fieldLink "java/lang/Throwable" (198 : Nat) "java/lang/Throwable" "backtrace" "Ljava/lang/Object;") ∈ lw_gd := uc_2 (List.mem_of_getElem? (i := 158) (by decide +kernel)) (by decide +kernel)
theorem qc_639 : (Jvm.Cond.superclass "java/lang/Throwable" "java/lang/Object") ∈ lw_gd := uc_2 (List.mem_of_getElem? (i := 159) (by decide +kernel)) (by decide +kernel)
theorem qc_640 : (Jvm.Cond.instanceMethod ({ cls := "java/lang/Throwable", name := "<init>", desc := "()V" } : Jvm.MethodName)) ∈ lw_gd := uc_2 (List.mem_of_getElem? (i := 160) (by decide +kernel)) (by decide +kernel)
theorem qc_641 : (Jvm.Cond.code ({ cls := "java/lang/Throwable", name := "<init>", desc := "()V" } : Jvm.MethodName) prog_34_method_1_code (1 : Nat) (Option.none : Option Jvm.ClassFile.FieldType)) ∈ lw_gd := uc_2 (List.mem_of_getElem? (i := 161) (by decide +kernel)) (by decide +kernel)
theorem qc_642 : (Jvm.Cond.methodLink "java/lang/Throwable" (1 : Nat) ({ cls := "java/lang/Object", name := "<init>", desc := "()V" } : Jvm.MethodName)) ∈ lw_gd := uc_2 (List.mem_of_getElem? (i := 162) (by decide +kernel)) (by decide +kernel)
theorem qc_643 : (Jvm.Cond.fieldLink "java/lang/Throwable" (13 : Nat) "java/lang/Throwable" "UNASSIGNED_STACK" "[Ljava/lang/StackTraceElement;") ∈ lw_gd := uc_2 (List.mem_of_getElem? (i := 163) (by decide +kernel)) (by decide +kernel)
theorem qc_645 : (Jvm.Cond.fieldLink "java/lang/Throwable" (20 : Nat) "java/lang/Throwable" "SUPPRESSED_SENTINEL" "Ljava/util/List;") ∈ lw_gd := uc_2 (List.mem_of_getElem? (i := 165) (by decide +kernel)) (by decide +kernel)
theorem qc_647 : (Jvm.Cond.methodLink "java/lang/Throwable" (27 : Nat) ({ cls := "java/lang/Throwable", name := "fillInStackTrace", desc := "()Ljava/lang/Throwable;" } : Jvm.MethodName)) ∈ lw_gd := uc_2 (List.mem_of_getElem? (i := 167) (by decide +kernel)) (by decide +kernel)
theorem qc_648 : (Jvm.Cond.instanceMethod ({ cls := "java/lang/Throwable", name := "fillInStackTrace", desc := "()Ljava/lang/Throwable;" } : Jvm.MethodName)) ∈ lw_gd := uc_2 (List.mem_of_getElem? (i := 168) (by decide +kernel)) (by decide +kernel)
theorem qc_651 : (Jvm.Cond.selects "java/lang/IllegalStateException" ({ cls := "java/lang/Throwable", name := "fillInStackTrace", desc := "()Ljava/lang/Throwable;" } : Jvm.MethodName) ({ cls := "java/lang/Throwable", name := "fillInStackTrace", desc := "()Ljava/lang/Throwable;" } : Jvm.MethodName)) ∈ lw_gd := uc_2 (List.mem_of_getElem? (i := 171) (by decide +kernel)) (by decide +kernel)
theorem qc_652 : (Jvm.Cond.selects "java/lang/IndexOutOfBoundsException" ({ cls := "java/lang/Throwable", name := "fillInStackTrace", desc := "()Ljava/lang/Throwable;" } : Jvm.MethodName) ({ cls := "java/lang/Throwable", name := "fillInStackTrace", desc := "()Ljava/lang/Throwable;" } : Jvm.MethodName)) ∈ lw_gd := uc_2 (List.mem_of_getElem? (i := 172) (by decide +kernel)) (by decide +kernel)
theorem qc_653 : (Jvm.Cond.codeSync ({ cls := "java/lang/Throwable", name := "fillInStackTrace", desc := "()Ljava/lang/Throwable;" } : Jvm.MethodName) prog_34_method_18_code (1 : Nat) (Option.some (Jvm.ClassFile.FieldType.object "java/lang/Throwable"))) ∈ lw_gd := uc_2 (List.mem_of_getElem? (i := 173) (by decide +kernel)) (by decide +kernel)
theorem qc_654 : (Jvm.Cond.methodLink "java/lang/Throwable" (202 : Nat) ({ cls := "java/lang/Throwable", name := "fillInStackTrace", desc := "(I)Ljava/lang/Throwable;" } : Jvm.MethodName)) ∈ lw_gd := uc_2 (List.mem_of_getElem? (i := 174) (by decide +kernel)) (by decide +kernel)
theorem qc_656 : (Jvm.Cond.instanceMethod ({ cls := "java/lang/Throwable", name := "fillInStackTrace", desc := "(I)Ljava/lang/Throwable;" } : Jvm.MethodName)) ∈ lw_gd := uc_2 (List.mem_of_getElem? (i := 176) (by decide +kernel)) (by decide +kernel)
theorem qc_658 : (Jvm.Cond.native ({ cls := "java/lang/Throwable", name := "fillInStackTrace", desc := "(I)Ljava/lang/Throwable;" } : Jvm.MethodName)) ∈ lw_gd := uc_2 (List.mem_of_getElem? (i := 178) (by decide +kernel)) (by decide +kernel)
theorem qc_848 : (Jvm.Cond.instanceMethod ({ cls := "java/lang/IllegalArgumentException", name := "<init>", desc := "(Ljava/lang/String;)V" } : Jvm.MethodName)) ∈ lw_gd := uc_3 (List.mem_of_getElem? (i := 128) (by decide +kernel)) (by decide +kernel)
theorem qc_849 : (Jvm.Cond.code ({ cls := "java/lang/IllegalArgumentException", name := "<init>", desc := "(Ljava/lang/String;)V" } : Jvm.MethodName) prog_22_method_2_code (2 : Nat) (Option.none : Option Jvm.ClassFile.FieldType)) ∈ lw_gd := uc_3 (List.mem_of_getElem? (i := 129) (by decide +kernel)) (by decide +kernel)
theorem qc_850 : (Jvm.Cond.methodLink "java/lang/IllegalArgumentException" (7 : Nat) ({ cls := "java/lang/RuntimeException", name := "<init>", desc := "(Ljava/lang/String;)V" } : Jvm.MethodName)) ∈ lw_gd := uc_3 (List.mem_of_getElem? (i := 130) (by decide +kernel)) (by decide +kernel)
theorem qc_851 : (Jvm.Cond.instanceMethod ({ cls := "java/lang/RuntimeException", name := "<init>", desc := "(Ljava/lang/String;)V" } : Jvm.MethodName)) ∈ lw_gd := uc_3 (List.mem_of_getElem? (i := 131) (by decide +kernel)) (by decide +kernel)
theorem qc_852 : (Jvm.Cond.code ({ cls := "java/lang/RuntimeException", name := "<init>", desc := "(Ljava/lang/String;)V" } : Jvm.MethodName) prog_28_method_2_code (2 : Nat) (Option.none : Option Jvm.ClassFile.FieldType)) ∈ lw_gd := uc_3 (List.mem_of_getElem? (i := 132) (by decide +kernel)) (by decide +kernel)
theorem qc_853 : (Jvm.Cond.methodLink "java/lang/RuntimeException" (7 : Nat) ({ cls := "java/lang/Exception", name := "<init>", desc := "(Ljava/lang/String;)V" } : Jvm.MethodName)) ∈ lw_gd := uc_3 (List.mem_of_getElem? (i := 133) (by decide +kernel)) (by decide +kernel)
theorem qc_854 : (Jvm.Cond.instanceMethod ({ cls := "java/lang/Exception", name := "<init>", desc := "(Ljava/lang/String;)V" } : Jvm.MethodName)) ∈ lw_gd := uc_3 (List.mem_of_getElem? (i := 134) (by decide +kernel)) (by decide +kernel)
theorem qc_855 : (Jvm.Cond.code ({ cls := "java/lang/Exception", name := "<init>", desc := "(Ljava/lang/String;)V" } : Jvm.MethodName) prog_21_method_2_code (2 : Nat) (Option.none : Option Jvm.ClassFile.FieldType)) ∈ lw_gd := uc_3 (List.mem_of_getElem? (i := 135) (by decide +kernel)) (by decide +kernel)
theorem qc_856 : (Jvm.Cond.methodLink "java/lang/Exception" (7 : Nat) ({ cls := "java/lang/Throwable", name := "<init>", desc := "(Ljava/lang/String;)V" } : Jvm.MethodName)) ∈ lw_gd := uc_3 (List.mem_of_getElem? (i := 136) (by decide +kernel)) (by decide +kernel)
theorem qc_857 : (Jvm.Cond.instanceMethod ({ cls := "java/lang/Throwable", name := "<init>", desc := "(Ljava/lang/String;)V" } : Jvm.MethodName)) ∈ lw_gd := uc_3 (List.mem_of_getElem? (i := 137) (by decide +kernel)) (by decide +kernel)
theorem qc_858 : (Jvm.Cond.code ({ cls := "java/lang/Throwable", name := "<init>", desc := "(Ljava/lang/String;)V" } : Jvm.MethodName) prog_34_method_2_code (2 : Nat) (Option.none : Option Jvm.ClassFile.FieldType)) ∈ lw_gd := uc_3 (List.mem_of_getElem? (i := 138) (by decide +kernel)) (by decide +kernel)
theorem qc_860 : (Jvm.Cond.fieldLink "java/lang/Throwable" (31 : Nat) "java/lang/Throwable" "detailMessage" "Ljava/lang/String;") ∈ lw_gd := uc_3 (List.mem_of_getElem? (i := 140) (by decide +kernel)) (by decide +kernel)
theorem qc_861 : (Jvm.Cond.fieldLink "java/lang/Throwable" (7 : Nat) "java/lang/Throwable" "cause" "Ljava/lang/Throwable;") ∈ lw_gd := uc_3 (List.mem_of_getElem? (i := 141) (by decide +kernel)) (by decide +kernel)
theorem qc_862 : (Jvm.Cond.fieldLink "java/lang/Throwable" (17 : Nat) "java/lang/Throwable" "stackTrace" "[Ljava/lang/StackTraceElement;") ∈ lw_gd := uc_3 (List.mem_of_getElem? (i := 142) (by decide +kernel)) (by decide +kernel)
theorem qc_863 : (Jvm.Cond.fieldLink "java/lang/Throwable" (24 : Nat) "java/lang/Throwable" "suppressedExceptions" "Ljava/util/List;") ∈ lw_gd := uc_3 (List.mem_of_getElem? (i := 143) (by decide +kernel)) (by decide +kernel)
theorem qc_905 : (Jvm.Cond.instanceMethod ({ cls := "java/lang/IndexOutOfBoundsException", name := "<init>", desc := "(Ljava/lang/String;)V" } : Jvm.MethodName)) ∈ lw_gd := uc_3 (List.mem_of_getElem? (i := 185) (by decide +kernel)) (by decide +kernel)
theorem qc_906 : (Jvm.Cond.code ({ cls := "java/lang/IndexOutOfBoundsException", name := "<init>", desc := "(Ljava/lang/String;)V" } : Jvm.MethodName) prog_24_method_2_code (2 : Nat) (Option.none : Option Jvm.ClassFile.FieldType)) ∈ lw_gd := uc_3 (List.mem_of_getElem? (i := 186) (by decide +kernel)) (by decide +kernel)
theorem qc_907 : (Jvm.Cond.methodLink "java/lang/IndexOutOfBoundsException" (7 : Nat) ({ cls := "java/lang/RuntimeException", name := "<init>", desc := "(Ljava/lang/String;)V" } : Jvm.MethodName)) ∈ lw_gd := uc_3 (List.mem_of_getElem? (i := 187) (by decide +kernel)) (by decide +kernel)
theorem qc_1414 : (Jvm.Cond.classLink "LineAssembler" (124 : Nat) "java/lang/IllegalStateException") ∈ lw_gd := uc_5 (List.mem_of_getElem? (i := 214) (by decide +kernel)) (by decide +kernel)
theorem qc_1415 : (Jvm.Cond.instantiable "java/lang/IllegalStateException" (6 : Nat)) ∈ lw_gd := uc_5 (List.mem_of_getElem? (i := 215) (by decide +kernel)) (by decide +kernel)
theorem qc_1417 : (Jvm.Cond.selects "java/lang/IllegalStateException" ({ cls := "java/lang/Throwable", name := "fillInStackTrace", desc := "(I)Ljava/lang/Throwable;" } : Jvm.MethodName) ({ cls := "java/lang/Throwable", name := "fillInStackTrace", desc := "(I)Ljava/lang/Throwable;" } : Jvm.MethodName)) ∈ lw_gd := uc_5 (List.mem_of_getElem? (i := 217) (by decide +kernel)) (by decide +kernel)
theorem qc_1418 : (Jvm.Cond.lays "java/lang/IllegalStateException" "java/lang/Throwable" "cause" "Ljava/lang/Throwable;") ∈ lw_gd := uc_5 (List.mem_of_getElem? (i := 218) (by decide +kernel)) (by decide +kernel)
theorem qc_1419 : (Jvm.Cond.lays "java/lang/IllegalStateException" "java/lang/Throwable" "stackTrace" "[Ljava/lang/StackTraceElement;") ∈ lw_gd := uc_5 (List.mem_of_getElem? (i := 219) (by decide +kernel)) (by decide +kernel)
theorem qc_1420 : (Jvm.Cond.lays "java/lang/IllegalStateException" "java/lang/Throwable" "suppressedExceptions" "Ljava/util/List;") ∈ lw_gd := uc_5 (List.mem_of_getElem? (i := 220) (by decide +kernel)) (by decide +kernel)
theorem qc_1421 : (Jvm.Cond.lays "java/lang/IllegalStateException" "java/lang/Throwable" "detailMessage" "Ljava/lang/String;") ∈ lw_gd := uc_5 (List.mem_of_getElem? (i := 221) (by decide +kernel)) (by decide +kernel)
theorem qc_1422 : (Jvm.Cond.lays "java/lang/IllegalStateException" "java/lang/Throwable" "backtrace" "Ljava/lang/Object;") ∈ lw_gd := uc_5 (List.mem_of_getElem? (i := 222) (by decide +kernel)) (by decide +kernel)
theorem qc_1424 : (Jvm.Cond.methodLink "LineAssembler" (128 : Nat) ({ cls := "java/lang/IllegalStateException", name := "<init>", desc := "(Ljava/lang/String;)V" } : Jvm.MethodName)) ∈ lw_gd := uc_5 (List.mem_of_getElem? (i := 224) (by decide +kernel)) (by decide +kernel)
theorem qc_1425 : (Jvm.Cond.instanceMethod ({ cls := "java/lang/IllegalStateException", name := "<init>", desc := "(Ljava/lang/String;)V" } : Jvm.MethodName)) ∈ lw_gd := uc_5 (List.mem_of_getElem? (i := 225) (by decide +kernel)) (by decide +kernel)
theorem qc_1426 : (Jvm.Cond.code ({ cls := "java/lang/IllegalStateException", name := "<init>", desc := "(Ljava/lang/String;)V" } : Jvm.MethodName) prog_23_method_2_code (2 : Nat) (Option.none : Option Jvm.ClassFile.FieldType)) ∈ lw_gd := uc_5 (List.mem_of_getElem? (i := 226) (by decide +kernel)) (by decide +kernel)
theorem qc_1427 : (Jvm.Cond.methodLink "java/lang/IllegalStateException" (7 : Nat) ({ cls := "java/lang/RuntimeException", name := "<init>", desc := "(Ljava/lang/String;)V" } : Jvm.MethodName)) ∈ lw_gd := uc_5 (List.mem_of_getElem? (i := 227) (by decide +kernel)) (by decide +kernel)
theorem qc_1430 : (Jvm.Cond.classLink "LineAssembler" (146 : Nat) "java/lang/IllegalArgumentException") ∈ lw_gd := uc_5 (List.mem_of_getElem? (i := 230) (by decide +kernel)) (by decide +kernel)
theorem qc_1432 : (Jvm.Cond.methodLink "LineAssembler" (150 : Nat) ({ cls := "java/lang/IllegalArgumentException", name := "<init>", desc := "(Ljava/lang/String;)V" } : Jvm.MethodName)) ∈ lw_gd := uc_5 (List.mem_of_getElem? (i := 232) (by decide +kernel)) (by decide +kernel)
theorem qc_1441 : (Jvm.Cond.classLink "LineAssembler" (151 : Nat) "java/lang/IndexOutOfBoundsException") ∈ lw_gd := uc_6 (List.mem_of_getElem? (i := 1) (by decide +kernel)) (by decide +kernel)
theorem qc_1442 : (Jvm.Cond.instantiable "java/lang/IndexOutOfBoundsException" (6 : Nat)) ∈ lw_gd := uc_6 (List.mem_of_getElem? (i := 2) (by decide +kernel)) (by decide +kernel)
theorem qc_1444 : (Jvm.Cond.selects "java/lang/IndexOutOfBoundsException" ({ cls := "java/lang/Throwable", name := "fillInStackTrace", desc := "(I)Ljava/lang/Throwable;" } : Jvm.MethodName) ({ cls := "java/lang/Throwable", name := "fillInStackTrace", desc := "(I)Ljava/lang/Throwable;" } : Jvm.MethodName)) ∈ lw_gd := uc_6 (List.mem_of_getElem? (i := 4) (by decide +kernel)) (by decide +kernel)
theorem qc_1445 : (Jvm.Cond.lays "java/lang/IndexOutOfBoundsException" "java/lang/Throwable" "cause" "Ljava/lang/Throwable;") ∈ lw_gd := uc_6 (List.mem_of_getElem? (i := 5) (by decide +kernel)) (by decide +kernel)
theorem qc_1446 : (Jvm.Cond.lays "java/lang/IndexOutOfBoundsException" "java/lang/Throwable" "stackTrace" "[Ljava/lang/StackTraceElement;") ∈ lw_gd := uc_6 (List.mem_of_getElem? (i := 6) (by decide +kernel)) (by decide +kernel)
theorem qc_1447 : (Jvm.Cond.lays "java/lang/IndexOutOfBoundsException" "java/lang/Throwable" "suppressedExceptions" "Ljava/util/List;") ∈ lw_gd := uc_6 (List.mem_of_getElem? (i := 7) (by decide +kernel)) (by decide +kernel)
theorem qc_1448 : (Jvm.Cond.lays "java/lang/IndexOutOfBoundsException" "java/lang/Throwable" "detailMessage" "Ljava/lang/String;") ∈ lw_gd := uc_6 (List.mem_of_getElem? (i := 8) (by decide +kernel)) (by decide +kernel)
theorem qc_1449 : (Jvm.Cond.lays "java/lang/IndexOutOfBoundsException" "java/lang/Throwable" "backtrace" "Ljava/lang/Object;") ∈ lw_gd := uc_6 (List.mem_of_getElem? (i := 9) (by decide +kernel)) (by decide +kernel)
theorem qc_1451 : (Jvm.Cond.methodLink "LineAssembler" (155 : Nat) ({ cls := "java/lang/IndexOutOfBoundsException", name := "<init>", desc := "(Ljava/lang/String;)V" } : Jvm.MethodName)) ∈ lw_gd := uc_6 (List.mem_of_getElem? (i := 11) (by decide +kernel)) (by decide +kernel)
/-! ===== what the class throws ===== -/
def xN (k : Int32) : String := if k = 1 then "java/lang/IllegalStateException" else if k = 2 then "java/lang/IllegalArgumentException" else "java/lang/IndexOutOfBoundsException"
def MX (below : List Frame) (k : Int32) (s : State) : State → Prop := fun t =>
  ∃ (a : Addr) (ce : Cell), t.status = .running ∧ Ended t below (.threw a) ∧ s.WarmedH t.vm ∧ s.sameButNew ({ t with vm := s.vm } : State) [] 1 6 ∧ t.heap[a]? = some ce ∧ ce.vm = .none ∧ s.vm.findClass (xN k) = some ce.cls
abbrev nmR : List String := ["java/lang/RuntimeException", "java/lang/Exception"]
theorem al_nil {α : Type} {P : α → Prop} : ∀ x ∈ ([] : List α), P x := fun x h => absurd h List.not_mem_nil
theorem al_cons {α : Type} {P : α → Prop} {a : α} {l : List α} (h1 : P a) (h2 : ∀ x ∈ l, P x) : ∀ x ∈ a :: l, P x := List.forall_mem_cons.mpr ⟨h1, h2⟩
theorem zq_ref {C n d : String} {A : Nat → Prop} {U : State} {args : Array Value} (h : va_Zq C n d A U U.heap) : (Cond.isRef (.static C n d)).before args U = true := by
  rcases h with ⟨cf, kf, fi, f, a, cell, h1, h2, h3, h4, h5, h6, h7, -⟩ | ⟨t, cf, kf, fi, f, a, cell, h1, h2, h3, h4, h5, h6, h7, -⟩ <;>
    simp [Cond.before, Cond.holds, Cond.value, Term.eval, State.fieldNamed?, h1, h2, h4, h5, h6, h7, Value.isRef]
/-- a method that throws an exception of class xN k, and changes nothing -/
def KX (l : Launch) (D : va_G) (dA : Nat → ClassId) (z : Nat → Nat) (y : MethodName) (cc : ByteArray) (nL : Nat) (rt : Option FieldType) (f lo : Nat) (Ws : List va_W) (As : List Value) (k : Int32) : Prop :=
  MetFree l y (headSpec (.code y cc nL rt :: lw_gd) (rmC f lo 1 6)) (va_Pc As (PC D dA z Ws)) (fun _ _ _ _ _ => True) (fun _ st o t =>
    ∃ (a : Addr) (ce : Cell), o = .threw a ∧ st.WarmedH t.vm ∧ st.sameButNew ({ t with vm := st.vm } : State) [] 1 6 ∧ t.heap[a]? = some ce ∧ ce.vm = .none ∧ st.vm.findClass (xN k) = some ce.cls)
section
variable {p : Program} {l : Launch} {e : Env} {R : Room} {s : State} {m : MethodId} {args : Array Value} {below : List Frame} {meth : Method} {c : Code} {H : Heap} {locs : List Loc} {cells slots : Nat} {Q : State → Prop} {pc : Nat} {ls : Array Slot} {rest st0 : List Value} {cc : ByteArray} {nL : Nat} {rt : Option FieldType} {D : va_G} {dA : Nat → ClassId} {z : Nat → Nat} {A : Nat → Prop} {R0 : String} {Ws Ws' Wc Wr : List va_W} {f lo : Nat}
theorem x_enterX {y : MethodName} {As : List Value} {k : Int32} (hy : plainName y.cls = true) (hlen : (lg_sl As).length ≤ nL)
    (body : ∀ (p : Program) (e : Env) (s : State) (m : MethodId) (args : Array Value) (below : List Frame) (meth : Method) (c : Code) (A : Nat → Prop), CxC y.cls p s m args meth c cc nL rt D dA z A → c.exceptionTable.isEmpty = true → WdC D A s Ws s.heap [] → ∀ ls, lv_has ls nL (lv_args 0 As) → W p l e (rmC f lo 1 6) s m args below meth c s.heap [] 0 0 (MX below k s) (F0 m 0 ls [])) : KX l D dA z y cc nL rt f lo Ws As k := by
  refine MetFree.of_bodyS (code := cc) (maxLocals := nL) (ret := rt) hy ?_ ?_
  · intro args s m h hn
    obtain ⟨meth, c, h1, h2, h3, h4, h5, h6, -, -⟩ := Cond.code_spec hn (atoms_spec (ws := .code y cc nL rt :: lw_gd) h _ List.mem_cons_self)
    exact ⟨meth, c, h1, h2, h3, h4, h5, h6⟩
  · intro p e s m args below meth c s₁ B hml hv _
    obtain ⟨rfl, hP, hK, hD0, hEX⟩ := hv
    have hts := atoms_spec (ws := .code y cc nL rt :: lw_gd) B.pre
    have hown : s.vm.findClass y.cls = some m.cls := findClass_of_methodNamed B.named
    have hl := lv_entry As (n := nL) hlen
    have hh0 : s₁.heap = s.heap := by rw [B.state]; rfl
    have hexc : c.exceptionTable.isEmpty = true := B.noHandlers (hts _ List.mem_cons_self)
    obtain ⟨t, a1, a, ce, b1, b2, b3, b4, b5, b6, b7⟩ := body p e s m _ below meth c (va_A Ws.flatten s.heap.size) ⟨⟨B.exec, B.bytes, hml, B.returns, hown, fun w h => hts w (List.mem_cons_of_mem _ h), B.notSynchronized⟩, hK, fun q h => Or.inr h, hEX⟩ hexc ⟨hP, hD0.self, va_S.rf⟩ _ hl s₁ hh0 (Stand.of_body B)
    rw [lg_entry_eq]
    exact ⟨t, .threw a, a1, b1, b2, a, ce, rfl, b3, b4, b5, b6, b7⟩
/-- new, dup, ldc, the constructor with its message, athrow -/
theorem x_throw (C : CxC R0 p s m args meth c cc nL rt D dA z A) (hexc : c.exceptionTable.isEmpty = true) (htr : l.stackTraces = false) {k : Int32} {X : String} {ic iN iS : Nat} (hX : xN k = X) (hat : ∀ a ∈ Bundle.ownAtoms R0 ic X nmR, a.before args s = true) (hfit : Bundle.fit X = true)
    (hcl : Cond.classLink R0 iN X ∈ lw_gd) (hin : Cond.instantiable X 6 ∈ lw_gd) (hini : Cond.initialized X ∈ lw_gd) {i : Nat} {r : String × Nat × String} (hr : ex_RL[i]? = some r) (hr1 : r.1 = R0) (hr2 : r.2.1 = iS) (hls : ls.size = nL)
    (d0 : decode cc pc = .ok (.new iN, 3)) (d1 : decode cc (pc + 3) = .ok (.dup, 1)) (d2 : decode cc (pc + 3 + 1) = .ok (.ldc iS, 2)) (d3 : decode cc (pc + 3 + 1 + 2) = .ok (.invokespecial ic, 3)) (d4 : decode cc (pc + 3 + 1 + 2 + 3) = .ok (.athrow, 1)) :
    W p l e (rmC 8 200 1 6) s m args below meth c s.heap [] 0 0 (MX below k s) (F0 m pc ls []) := by
  subst hX
  obtain ⟨⟨hx, hb, hml, hrt, hown, hT, hlk⟩, hK, hA, hEX⟩ := C
  have hR : vk_R R0 iS r.2.2 (sK z i) s := by
    have h := hEX.rf i r hr
    rw [hr1, hr2] at h
    exact h
  refine W.newc hx hb hown (hT _ hcl) (hT _ hin) (hT _ hini) rfl d0 (Nat.le_of_ble_eq_true rfl) (Nat.le_of_ble_eq_true rfl) (fun cC kC h1 h2 h3 h4 => ?_)
  refine lv_dup hx hb d1 rfl ?_
  refine va_ldcS hx hb hown hR d2 ?_
  intro T hTh X
  have hcell : T.heap[s.heap.size]? = some (freshCell cC kC) := by
    rw [hTh]
    simp [freshCell]
  obtain ⟨U, st, hrun, hend, hW, hsame, ce, hce, O⟩ := X.ctorThrowS hx (by rw [X.admits.platform]; exact htr) (own := R0) (cls := xN k) (names := nmR) (ic := ic) hown hfit (by decide +kernel) hat (fun x hx => absurd hx List.not_mem_nil) h1 h2 hcell (Nat.le_refl _) (msg := .ref (sK z i)) rfl
    (g := F0 m (pc + 3 + 1 + 2) ls [.ref (sK z i), .ref s.heap.size, .ref s.heap.size]) rfl (hls.trans hml.symm) rfl rfl (rest := []) rfl (by rw [hb]; exact d3) (by rw [hb]; exact d4) (covers_of_empty hexc _) (Nat.le_of_ble_eq_true rfl) (Nat.le_of_ble_eq_true rfl) hlk
  exact ⟨U, st, _, ce, hrun, hend, hW, hsame, hce, O.vm, O.cls⟩
/-! the search for a handler: the class that an entry names may not be resolved yet -/
def FT (e : Env) (S : State) (g : JFrame) (a : Addr) (pc : Nat) (v : Vm) : Prop := ∀ (Q : Handler → Pre) (E : CtlPost) (d : Bool) (acts : List Action), wp (findHandler g a) Q E e d acts S ↔ Q (.found pc) d acts (S.setVm v)
theorem ft_one {Q : Handler → Pre} {E : CtlPost} {d : Bool} {acts : List Action} {S : State} {g : JFrame} {a : Addr} {en : ExceptionTableEntry} {t : List ExceptionTableEntry} {k : ClassId} {ce : Cell} {k1 k2 : Class} (hc : covers en g.pc = true) (h0 : en.catchType ≠ 0)
    (hl : S.vm.ClassLinks e.platform g.method.cls en.catchType k) (hce : S.heap[a]? = some ce) (hob : ∀ j, ce.vm ≠ .statics j) (hk1 : S.vm.classes[ce.cls]? = some k1) (hk2 : S.vm.classes[k]? = some k2) :
    wp (findHandler.go g a (en :: t)) Q E e d acts S ↔ if S.vm.assignable ce.cls k = true then Q (.found en.handlerPc) d acts (S.setVm (S.vm.noted g.method.cls en.catchType (.cls k))) else wp (findHandler.go g a t) Q E e d acts (S.setVm (S.vm.noted g.method.cls en.catchType (.cls k))) := by
  have hal : S.vm.Alike (S.vm.noted g.method.cls en.catchType (.cls k)) := (Vm.Alike.refl S.vm).noted _ _ _
  obtain ⟨u1, u2⟩ := (resolveClass_links e.toSetting hl).op (op := VmOp.resolveClass g.method.cls en.catchType) rfl
  obtain ⟨j1, hj1, -⟩ := hal.2.2 _ _ hk1
  obtain ⟨j2, hj2, -⟩ := hal.2.2 _ _ hk2
  have ha := hal.assignable ce.cls k
  simp only [covers] at hc
  cases hf : S.vm.assignable ce.cls k <;> rw [hf] at ha <;> simp [findHandler.go, hc, h0, u1, u2, hce, hob, hj1, hj2, ha, VmOp.dirties, VmOp.acts]
theorem ft_steps {tb : Tables} {T target : State} {g : JFrame} {a : Addr} {v : Vm} (h : At T g.method c below) (hf : FT e ((T.setTop g).pushFrame (.throwing a)) g a pc v) (hr : Steps tb e below ((T.setVm v).setTop { g with pc := pc, stack := [.ref a] }) target) : Steps tb e below ((T.setTop g).pushFrame (.throwing a)) target := by
  obtain ⟨h1, h2⟩ := h.throwing a
  refine Steps.head h1 h2 ?_
  have hs : (stepThrowing e ((T.setTop g).pushFrame (.throwing a)) a (.java g :: T.frames.tail)).Is ((((T.setTop g).pushFrame (.throwing a)).setVm v).setFrames (.java { g with pc := pc, stack := [.ref a] } :: T.frames.tail)) [] := by
    simp only [stepThrowing, searchFrame, vmDo]
    generalize hq : Sem.go _ e false [] _ = res
    obtain ⟨as, rfl, ha⟩ := Sem.eq_ok_of hq (a := Handler.found pc) (s' := ((T.setTop g).pushFrame (.throwing a)).setVm v) (acts' := []) (by simp [hf _ _ _ _])
    exact ⟨rfl, ha⟩
  rw [stepThread_throwing (frames_entered h.top _), hs.1]
  obtain ⟨g₀, hg⟩ := Option.isSome_iff_exists.mp h.top
  obtain ⟨r, hr0⟩ := State.topJava?_eq_some.mp hg
  have hr1 : (T.setVm v).frames = .java g₀ :: r := hr0
  rw [State.setTop_of_frames _ hr1] at hr
  have e1 : (((T.setTop g).pushFrame (.throwing a)).setVm v).setFrames (.java { g with pc := pc, stack := [.ref a] } :: T.frames.tail) = (T.setVm v).setFrames (.java { g with pc := pc, stack := [.ref a] } :: r) := by
    have e2 : ((T.setTop g).pushFrame (.throwing a)).setVm v = ((T.setVm v).setFrames (.java g :: r)).setFrames (.throwing a :: ((T.setTop g).frames)) := by
      rw [State.pushFrame, State.setTop_of_frames _ hr0]
      rfl
    rw [e2, State.setFrames_setFrames, State.setFrames_setFrames, hr0]
    rfl
  rw [e1]
  exact hr
theorem at_lt {q : Nat × va_E} (h : va_at D classes q H) : q.1 < H.size := by
  obtain ⟨a, e0⟩ := q
  cases e0 with
  | inl o => exact (Array.getElem?_eq_some_iff.mp (show H[a]? = some _ from h)).1
  | inr o =>
    obtain ⟨r, h1, cell, g1, -⟩ := h
    exact (Array.getElem?_eq_some_iff.mp g1).1
theorem same_at {U U' : State} {kc ks q : Nat} (h : U.sameButNew U' [] kc ks) (hq : q < U.heap.size) : U'.heap[q]? = U.heap[q]? := by
  obtain ⟨c', h1, h2, h3, h4⟩ := h.2.2.2.2.2 q _ (Array.getElem?_eq_getElem hq)
  rw [h1, Array.getElem?_eq_getElem hq]
  have e1 : c'.slots = (U.heap[q]).slots := Array.ext_getElem? (fun i => h4 i List.not_mem_nil)
  rw [e1] at h2
  rw [h2]
theorem WdC.same {U U' : State} {kc ks : Nat} (hW : WdC D A s Ws U.heap locs) (h : U.sameButNew U' [] kc ks) : WdC D A s Ws U'.heap locs :=
  ⟨hW.1.kept (fun k q hk => same_at h (at_lt (hW.1 k q hk))), hW.2.1, Nat.le_trans hW.2.2.1 h.2.1, fun q h1 h2 => (same_at h (Nat.lt_of_lt_of_le h1 hW.2.2.1)).trans (hW.2.2.2.1 q h1 h2), hW.2.2.2.2⟩
/-- a call that throws, and is caught here -/
theorem x_callX {cc' : ByteArray} {nL' idx n n' ci q0 b hpc : Nat} {rt' : Option FieldType} {y : MethodName} {As : List Value} {vc : vw_C} {fs : List Value} {k : Int32} (C : CxC R0 p s m args meth c cc nL rt D dA z A) (hW : WdC D A s Ws H locs) (hM : KX l D dA z y cc' nL' rt' f lo Wc (.ref b :: As) k)
    (ps : List Nat) (hn' : Ws.length = n') (hps : ps.Perm (List.range n')) (he : ps.filterMap (fun i => Ws[i]?) = Wc ++ Wr) (hcl : classes[ci]? = some vc) (hob : Ws.flatten[q0]? = some (b, .inr (ci, fs)))
    (hG : GoodIn lw_gd (wsV R0 idx vc.1 y (.code y cc' nL' rt' :: lw_gd))) (hd : y.cls = vc.1 ∧ y.cls ≠ "java/lang/invoke/MethodHandle" ∧ y.cls ≠ "java/lang/invoke/VarHandle" ∧ (parseMethodDescriptor y.desc).map (fun d => d.parameters.length) = some n)
    (hR : f + 1 ≤ R.frames ∧ 8 + (nL' + 11) + lo ≤ R.locals) (hcs : cells + 1 ≤ R.cells ∧ slots + 6 ≤ R.slots) (hn : As.length = n) (hsz : ls.size = nL) (hst : st0 = As.reverse ++ .ref b :: rest) (hc : (rest.map fun v => v.category).sum ≤ 8) (hdg : decode cc pc = .ok (.invokevirtual idx, 3))
    (hfd : ∀ (T : State) (a : Addr) (ce : Cell), Stand p l e R s m args below meth c T locs (cells + 1) (slots + 6) → T.heap[a]? = some ce → ce.vm = .none → s.vm.findClass (xN k) = some ce.cls → ∃ v : Vm, s.WarmedH v ∧ FT e ((T.setTop (F0 m pc ls rest)).pushFrame (.throwing a)) (F0 m pc ls rest) a hpc v)
    (kk : ∀ (a : Nat) (H1 : Heap), WdC D A s Ws H1 locs → W p l e R s m args below meth c H1 locs (cells + 1) (slots + 6) Q (F0 m hpc ls [.ref a])) : W p l e R s m args below meth c H locs cells slots Q (F0 m pc ls st0) := by
  have C' := C
  obtain ⟨⟨hx, hb, hml, hrt, hown, hT, hlk⟩, hK, hA, hEX⟩ := C'
  obtain ⟨⟨-, -, hfr, hlo, hws, hcw, hcode, hini, hy, hlen, hl⟩, hin, hse⟩ := cwV (R := R) (rm := rmC f lo 1 6) (mc := 1) (ms := 6) n hT hG rfl rfl rfl hd hR
  obtain ⟨cellB, hcB, hoB, hclB⟩ := va_recv hK hW.1 hcl hob
  intro T hT' X
  obtain ⟨mk, methM, hnamed, hmethM, hstM, habM⟩ := Cond.instanceMethod_spec hin
  obtain ⟨methM', cM, hmethM', -, -, -, -, -, -, hsigM⟩ := Cond.code_spec hnamed hcode
  cases hmethM.symm.trans hmethM'
  obtain ⟨c2, r2, m2, q1, q2, q3, q4, kP, hkP, hkPi⟩ := Cond.selects_spec hse
  cases hclB.symm.trans q1
  cases (State.methodFound?_of_named hnamed hy).symm.trans q2
  cases hnamed.symm.trans q3
  have hselP : selectMethod e.platform s.vm cellB.cls mk = .method mk := by rw [Launch.admits_selectMethod X.admits]; exact q4
  obtain ⟨vm₁, X₁, hstep⟩ := X.invokevirtual hx hown hl hnamed hmethM hstM hkP hkPi hy (a := b) (cell := cellB) (by rw [hT']; exact hcB) (fun z h => by rw [h] at hoB; cases hoB) hselP hmethM habM hkP hkPi (g := F0 m pc ls st0) rfl (argsL := As) (rest := rest) (hn.trans (hlen _ hsigM)) hst (by rw [hb]; exact hdg)
  have hn1 : (T.setVm vm₁).methodNamed? y = some mk := X₁.named hnamed
  obtain ⟨kY, hkY, -⟩ := className_of_methodNamed hn1
  have hini1 : (Cond.initialized y.cls).before ((Value.ref b :: As).toArray) (T.setVm vm₁) = true := word_at X₁.warmed (Or.inl (by first | rfl | simp [Cond.onTables, Cond.keeps, Cond.steady])) hini
  have hiY : kY.init = .initialized := Cond.initialized_spec (findClass_of_methodNamed hn1) hkY hini1
  obtain ⟨methY, cY, hmY, hcY, -, hlY, -, -, -, -⟩ := Cond.code_spec hn1 (hws _ hcw ((Value.ref b :: As).toArray) (T.setVm vm₁) X₁.warmed)
  have hAt : At (T.setVm vm₁) (F0 m pc ls rest).method c below := X₁.here
  have happ : (headSpec (.code y cc' nL' rt' :: lw_gd) (rmC f lo 1 6)).appliesLoose y e.platform ((T.setVm vm₁).calling (F0 m pc ls rest) mk (Value.ref b :: As).toArray) = true :=
    Spec.appliesLoose_calling (g := F0 m pc ls rest) hAt (by rw [hb]; exact hdg) hn1 hkY hiY
      (X₁.room_calling (g := F0 m pc ls rest) (R' := rmC f lo 1 6) (hsz.trans hml.symm) hmY hcY hfr (by
        rw [hlY]
        have h1 := hR.2
        have h2 : 2 * (F0 m pc ls rest).monitorRoom + ((F0 m pc ls rest).stack.map fun v => v.category).sum ≤ 8 := lv_room (m := m) (pc := pc) (ls := ls) (rest := rest) hc
        show _ + (nL' + 11) + lo ≤ R.locals
        omega) hcs.1 hcs.2) (atoms_intro fun w hw => hws w hw _ _ X₁.warmed)
  obtain ⟨mid, hmid⟩ := hAt.above
  have hfr0 : ((T.setVm vm₁).setTop (F0 m pc ls rest)).frames = (.java (F0 m pc ls rest) :: mid) ++ below := by rw [State.frames_setTop' _ hAt.top, hmid]; rfl
  obtain ⟨o, s₂, hsteps, -, hend, a, ce, rfl, hw2, hsame, hce, hcv, hcc⟩ := Steps.callFree hM p X.admits X.cas X.clock (acts := []) hfr0 happ (pc_blind _ _ (F0 m pc ls rest) mk ⟨rfl, x_preC C hW hn' hps he (T.setVm vm₁) hT' X₁.warmed⟩) trivial
  rw [State.frames_setTop' _ hAt.top, X₁.tail] at hend
  obtain ⟨T', X2, hW2, hs2, ht⟩ := X₁.outOfThrown (g := F0 m pc ls rest) rfl hend hw2 hsame
  rw [List.append_nil] at X2
  subst ht
  have hce1 : T'.heap[a]? = some ce := hce
  have hcc1 : s.vm.findClass (xN k) = some ce.cls := by rw [← X₁.warmed.alike.findClass]; exact hcc
  have hWd : WdC D A s Ws T'.heap locs := by
    subst hT'
    exact WdC.same (U := T.setVm vm₁) (U' := T'.setVm (T.setVm vm₁).vm) hW hs2
  obtain ⟨v, hv, hft⟩ := hfd T' a ce X2 hce1 hcv hcc1
  obtain ⟨t, h1, h2⟩ := kk a T'.heap hWd (T'.setVm v) rfl (X2.noted hv)
  refine ⟨t, hstep _ (fun acts => ?_), h2⟩
  rw [doInvoke_state]
  exact hsteps.trans (ft_steps (g := F0 m pc ls rest) X2.here hft h1)
/-- the first entry takes it -/
theorem x_find1 {hh : List (Nat × Nat × Nat × Nat)} {ct sp ep hp : Nat} {k : Int32} (C : CxC R0 p s m args meth c cc nL rt D dA z A) (hex : c.exceptionTable.toList.map (fun h => (h.startPc, h.endPc, h.handlerPc, h.catchType)) = (sp, ep, hp, ct) :: hh) (hcv : (decide (sp ≤ pc) && decide (pc < ep)) = true) (h0 : ct ≠ 0)
    (hcl : Cond.classLink R0 ct (xN k) ∈ lw_gd) (hca : va_Nw (.castable (xN k) (xN k)) s) {kc ks : Nat} : ∀ (T : State) (a : Addr) (ce : Cell), Stand p l e R s m args below meth c T locs kc ks → T.heap[a]? = some ce → ce.vm = .none → s.vm.findClass (xN k) = some ce.cls → ∃ v : Vm, s.WarmedH v ∧ FT e ((T.setTop (F0 m pc ls rest)).pushFrame (.throwing a)) (F0 m pc ls rest) a hp v := by
  intro T a ce X hce hcn hcc
  obtain ⟨⟨hx, hb, hml, hrt, hown, hT, hlk⟩, hK, hA, hEX⟩ := C
  cases hl : c.exceptionTable.toList with
  | nil => rw [hl] at hex; cases hex
  | cons en tl =>
    rw [hl] at hex
    simp only [List.map_cons, List.cons.injEq, Prod.mk.injEq] at hex
    obtain ⟨⟨rfl, rfl, rfl, rfl⟩, -⟩ := hex
    have hpl : e.platform.magicAccessors = ({} : Platform).magicAccessors := by rw [X.admits.platform]
    obtain ⟨kc', hk1, hk2⟩ := Cond.classLink_spec hown (hT _ hcl) e.platform hpl
    cases hcc.symm.trans hk1
    obtain ⟨dk, _, _, kt, hd, _, _, _, _, hkt, _, hopen⟩ := hk2.here
    obtain ⟨kt', hkt', -⟩ := X.warmed.alike.2.2 _ _ hkt
    obtain ⟨c1, c2, g1, g2, g3⟩ := Cond.castable_spec hca
    cases hcc.symm.trans g1
    cases hcc.symm.trans g2
    refine ⟨T.vm.noted m.cls en.catchType (.cls ce.cls), X.warmed.noted hd hopen (State.rightAt_cls hk2), fun Q E d acts => ?_⟩
    rw [Jvm.W.findHandler_eq (meth := meth) (code := c) X.method' X.code, hl]
    refine (ft_one (S := (T.setTop (F0 m pc ls rest)).pushFrame (.throwing a)) (ce := ce) (k := ce.cls) hcv h0 (X.warmed.classLinks hk2) hce (fun j => by rw [hcn]; exact fun h => nomatch h) hkt' hkt').trans ?_
    rw [if_pos (show ((T.setTop (F0 m pc ls rest)).pushFrame (.throwing a)).vm.assignable ce.cls ce.cls = true from (by rw [X.warmed.alike.assignable]; exact g3 : T.vm.assignable ce.cls ce.cls = true))]
    exact Iff.rfl
/-- the first does not take it, the second does -/
theorem x_find2 {hh : List (Nat × Nat × Nat × Nat)} {ct sp ep hp ct0 sp0 ep0 hp0 : Nat} {k : Int32} {X0 : String} (C : CxC R0 p s m args meth c cc nL rt D dA z A) (hex : c.exceptionTable.toList.map (fun h => (h.startPc, h.endPc, h.handlerPc, h.catchType)) = (sp0, ep0, hp0, ct0) :: (sp, ep, hp, ct) :: hh) (hcv0 : (decide (sp0 ≤ pc) && decide (pc < ep0)) = true) (hcv : (decide (sp ≤ pc) && decide (pc < ep)) = true) (h00 : ct0 ≠ 0) (h0 : ct ≠ 0)
    (hcl0 : Cond.classLink R0 ct0 X0 ∈ lw_gd) (hno : ∃ c1 c2 : ClassId, s.vm.findClass (xN k) = some c1 ∧ s.vm.findClass X0 = some c2 ∧ s.vm.assignable c1 c2 = false) (hcl : Cond.classLink R0 ct (xN k) ∈ lw_gd) (hca : va_Nw (.castable (xN k) (xN k)) s) {kc ks : Nat} : ∀ (T : State) (a : Addr) (ce : Cell), Stand p l e R s m args below meth c T locs kc ks → T.heap[a]? = some ce → ce.vm = .none → s.vm.findClass (xN k) = some ce.cls → ∃ v : Vm, s.WarmedH v ∧ FT e ((T.setTop (F0 m pc ls rest)).pushFrame (.throwing a)) (F0 m pc ls rest) a hp v := by
  intro T a ce X hce hcn hcc
  obtain ⟨⟨hx, hb, hml, hrt, hown, hT, hlk⟩, hK, hA, hEX⟩ := C
  cases hl : c.exceptionTable.toList with
  | nil => rw [hl] at hex; cases hex
  | cons en0 tl0 =>
    cases tl0 with
    | nil => rw [hl] at hex; simp at hex
    | cons en tl =>
      rw [hl] at hex
      simp only [List.map_cons, List.cons.injEq, Prod.mk.injEq] at hex
      obtain ⟨⟨rfl, rfl, rfl, rfl⟩, ⟨rfl, rfl, rfl, rfl⟩, -⟩ := hex
      have hpl : e.platform.magicAccessors = ({} : Platform).magicAccessors := by rw [X.admits.platform]
      obtain ⟨kc', hk1, hk2⟩ := Cond.classLink_spec hown (hT _ hcl) e.platform hpl
      cases hcc.symm.trans hk1
      obtain ⟨kn, hn1, hn2⟩ := Cond.classLink_spec hown (hT _ hcl0) e.platform hpl
      obtain ⟨n1, n2, m1, m2, m3⟩ := hno
      cases hcc.symm.trans m1
      cases hn1.symm.trans m2
      obtain ⟨dk, _, _, kt, hd, _, _, _, _, hkt, _, hopen⟩ := hk2.here
      obtain ⟨dk0, _, _, kt0, hd0, _, _, _, _, hkt0, _, hopen0⟩ := hn2.here
      obtain ⟨kt', hkt', -⟩ := X.warmed.alike.2.2 _ _ hkt
      obtain ⟨kt0', hkt0', -⟩ := X.warmed.alike.2.2 _ _ hkt0
      obtain ⟨c1, c2, g1, g2, g3⟩ := Cond.castable_spec hca
      cases hcc.symm.trans g1
      cases hcc.symm.trans g2
      have w1 : s.WarmedH (T.vm.noted m.cls en0.catchType (.cls kn)) := X.warmed.noted hd0 hopen0 (State.rightAt_cls hn2)
      have X1 := X.noted w1
      obtain ⟨kt'', hkt'', -⟩ := w1.alike.2.2 _ _ hkt
      refine ⟨(T.vm.noted m.cls en0.catchType (.cls kn)).noted m.cls en.catchType (.cls ce.cls), w1.noted hd hopen (State.rightAt_cls hk2), fun Q E d acts => ?_⟩
      rw [Jvm.W.findHandler_eq (meth := meth) (code := c) X.method' X.code, hl]
      refine (ft_one (S := (T.setTop (F0 m pc ls rest)).pushFrame (.throwing a)) (ce := ce) (k := kn) hcv0 h00 (X.warmed.classLinks hn2) hce (fun j => by rw [hcn]; exact fun h => nomatch h) hkt' hkt0').trans ?_
      rw [if_neg (show ¬ ((T.setTop (F0 m pc ls rest)).pushFrame (.throwing a)).vm.assignable ce.cls kn = true from (by rw [X.warmed.alike.assignable, m3]; exact fun h => nomatch h : ¬ T.vm.assignable ce.cls kn = true))]
      refine (ft_one (S := ((T.setTop (F0 m pc ls rest)).pushFrame (.throwing a)).setVm (T.vm.noted m.cls en0.catchType (.cls kn))) (ce := ce) (k := ce.cls) hcv h0 (w1.classLinks hk2) hce (fun j => by rw [hcn]; exact fun h => nomatch h) hkt'' hkt'').trans ?_
      rw [if_pos (show (((T.setTop (F0 m pc ls rest)).pushFrame (.throwing a)).setVm (T.vm.noted m.cls en0.catchType (.cls kn))).vm.assignable ce.cls ce.cls = true from (by rw [w1.alike.assignable]; exact g3 : (T.vm.noted m.cls en0.catchType (.cls kn)).assignable ce.cls ce.cls = true))]
      exact Iff.rfl
end

theorem dC_Asm_size_10 : decode cC_Asm_size 10 = .ok (.dup, 1) := by decide +kernel
theorem dC_Asm_size_11 : decode cC_Asm_size 11 = .ok (.ldc 126, 2) := by decide +kernel
theorem dC_Asm_size_13 : decode cC_Asm_size 13 = .ok (.invokespecial 128, 3) := by decide +kernel
theorem dC_Asm_size_16 : decode cC_Asm_size 16 = .ok (.athrow, 1) := by decide +kernel
theorem dC_Asm_size_110 : decode cC_Asm_size 110 = .ok (.dup, 1) := by decide +kernel
theorem dC_Asm_size_111 : decode cC_Asm_size 111 = .ok (.ldc 148, 2) := by decide +kernel
theorem dC_Asm_size_113 : decode cC_Asm_size 113 = .ok (.invokespecial 150, 3) := by decide +kernel
theorem dC_Asm_size_116 : decode cC_Asm_size 116 = .ok (.athrow, 1) := by decide +kernel
theorem dC_Asm_byteAt_25 : decode cC_Asm_byteAt 25 = .ok (.dup, 1) := by decide +kernel
theorem dC_Asm_byteAt_26 : decode cC_Asm_byteAt 26 = .ok (.ldc 153, 2) := by decide +kernel
theorem dC_Asm_byteAt_28 : decode cC_Asm_byteAt 28 = .ok (.invokespecial 155, 3) := by decide +kernel
theorem dC_Asm_byteAt_31 : decode cC_Asm_byteAt 31 = .ok (.athrow, 1) := by decide +kernel
theorem dC_Asm_address_11 : decode cC_Asm_address 11 = .ok (.dup, 1) := by decide +kernel
theorem dC_Asm_address_12 : decode cC_Asm_address 12 = .ok (.ldc 165, 2) := by decide +kernel
theorem dC_Asm_address_14 : decode cC_Asm_address 14 = .ok (.invokespecial 155, 3) := by decide +kernel
theorem dC_Asm_address_17 : decode cC_Asm_address 17 = .ok (.athrow, 1) := by decide +kernel
theorem dC_Asm_letter_53 : decode cC_Asm_letter 53 = .ok (.dup, 1) := by decide +kernel
theorem dC_Asm_letter_54 : decode cC_Asm_letter 54 = .ok (.ldc 182, 2) := by decide +kernel
theorem dC_Asm_letter_56 : decode cC_Asm_letter 56 = .ok (.invokespecial 155, 3) := by decide +kernel
theorem dC_Asm_letter_59 : decode cC_Asm_letter 59 = .ok (.athrow, 1) := by decide +kernel
theorem ow_ise {dA : Nat → ClassId} {z : Nat → Nat} {A : Nat → Prop} {s : State} {args : Array Value} (hT : ∀ w ∈ lw_gd, w.before args s = true) (hE : EX dA z A s s.heap) : ∀ a ∈ Bundle.ownAtoms "LineAssembler" 128 "java/lang/IllegalStateException" nmR, a.before args s = true := by
  refine al_cons (hT _ qc_24) ?_
  refine al_cons (hT _ qc_639) ?_
  refine al_cons (hT _ qc_648) ?_
  refine al_cons (hT _ qc_653) ?_
  refine al_cons (hT _ qc_656) ?_
  refine al_cons (hT _ qc_658) ?_
  refine al_cons (hT _ qc_640) ?_
  refine al_cons (hT _ qc_641) ?_
  refine al_cons (hT _ qc_44) ?_
  refine al_cons (hT _ qc_45) ?_
  refine al_cons (hT _ qc_642) ?_
  refine al_cons (hT _ qc_647) ?_
  refine al_cons (hT _ qc_654) ?_
  refine al_cons (hT _ qc_861) ?_
  refine al_cons (hT _ qc_629) ?_
  refine al_cons (hT _ qc_862) ?_
  refine al_cons (hT _ qc_631) ?_
  refine al_cons (hT _ qc_863) ?_
  refine al_cons (hT _ qc_633) ?_
  refine al_cons (hT _ qc_643) ?_
  refine al_cons (ex_LS.use hE.ul) ?_
  refine al_cons (hT _ qc_645) ?_
  refine al_cons (ex_LS.use hE.sl) ?_
  refine al_cons (hT _ qc_635) ?_
  refine al_cons (hT _ qc_857) ?_
  refine al_cons (hT _ qc_858) ?_
  refine al_cons (hT _ qc_860) ?_
  refine al_cons (hT _ qc_635) ?_
  refine al_cons (hT _ qc_1425) ?_
  refine al_cons (hT _ qc_1426) ?_
  refine al_cons (hT _ qc_1427) ?_
  refine al_cons (hT _ qc_851) ?_
  refine al_cons (va_Nw.use rfl (hE.w _ ex_m14)) ?_
  refine al_cons (hT _ qc_851) ?_
  refine al_cons (hT _ qc_852) ?_
  refine al_cons (hT _ qc_853) ?_
  refine al_cons (hT _ qc_854) ?_
  refine al_cons (va_Nw.use rfl (hE.w _ ex_m15)) ?_
  refine al_cons (hT _ qc_854) ?_
  refine al_cons (hT _ qc_855) ?_
  refine al_cons (hT _ qc_856) ?_
  refine al_cons (hT _ qc_857) ?_
  refine al_cons (va_Nw.use rfl (hE.w _ ex_m16)) ?_
  refine al_cons (hT _ qc_1424) ?_
  refine al_cons (hT _ qc_1415) ?_
  refine al_cons (va_Nw.use rfl (hE.w _ ex_m12)) ?_
  refine al_cons (hT _ qc_1417) ?_
  refine al_cons (hT _ qc_651) ?_
  refine al_cons (hT _ qc_1418) ?_
  refine al_cons (hT _ qc_1419) ?_
  refine al_cons (hT _ qc_1420) ?_
  refine al_cons (hT _ qc_1421) ?_
  refine al_cons (zq_ref hE.us) ?_
  refine al_cons (zq_ref hE.ss) ?_
  refine al_cons (hT _ qc_638) ?_
  refine al_cons (hT _ qc_637) ?_
  refine al_cons (hT _ qc_1422) ?_
  exact al_nil
theorem ow_iae {dA : Nat → ClassId} {z : Nat → Nat} {A : Nat → Prop} {s : State} {args : Array Value} (hT : ∀ w ∈ lw_gd, w.before args s = true) (hE : EX dA z A s s.heap) : ∀ a ∈ Bundle.ownAtoms "LineAssembler" 150 "java/lang/IllegalArgumentException" nmR, a.before args s = true := by
  refine al_cons (hT _ qc_24) ?_
  refine al_cons (hT _ qc_639) ?_
  refine al_cons (hT _ qc_648) ?_
  refine al_cons (hT _ qc_653) ?_
  refine al_cons (hT _ qc_656) ?_
  refine al_cons (hT _ qc_658) ?_
  refine al_cons (hT _ qc_640) ?_
  refine al_cons (hT _ qc_641) ?_
  refine al_cons (hT _ qc_44) ?_
  refine al_cons (hT _ qc_45) ?_
  refine al_cons (hT _ qc_642) ?_
  refine al_cons (hT _ qc_647) ?_
  refine al_cons (hT _ qc_654) ?_
  refine al_cons (hT _ qc_861) ?_
  refine al_cons (hT _ qc_629) ?_
  refine al_cons (hT _ qc_862) ?_
  refine al_cons (hT _ qc_631) ?_
  refine al_cons (hT _ qc_863) ?_
  refine al_cons (hT _ qc_633) ?_
  refine al_cons (hT _ qc_643) ?_
  refine al_cons (ex_LS.use hE.ul) ?_
  refine al_cons (hT _ qc_645) ?_
  refine al_cons (ex_LS.use hE.sl) ?_
  refine al_cons (hT _ qc_635) ?_
  refine al_cons (hT _ qc_857) ?_
  refine al_cons (hT _ qc_858) ?_
  refine al_cons (hT _ qc_860) ?_
  refine al_cons (hT _ qc_635) ?_
  refine al_cons (hT _ qc_848) ?_
  refine al_cons (hT _ qc_849) ?_
  refine al_cons (hT _ qc_850) ?_
  refine al_cons (hT _ qc_851) ?_
  refine al_cons (va_Nw.use rfl (hE.w _ ex_m14)) ?_
  refine al_cons (hT _ qc_851) ?_
  refine al_cons (hT _ qc_852) ?_
  refine al_cons (hT _ qc_853) ?_
  refine al_cons (hT _ qc_854) ?_
  refine al_cons (va_Nw.use rfl (hE.w _ ex_m15)) ?_
  refine al_cons (hT _ qc_854) ?_
  refine al_cons (hT _ qc_855) ?_
  refine al_cons (hT _ qc_856) ?_
  refine al_cons (hT _ qc_857) ?_
  refine al_cons (va_Nw.use rfl (hE.w _ ex_m16)) ?_
  refine al_cons (hT _ qc_1432) ?_
  refine al_cons (hT _ qc_618) ?_
  refine al_cons (va_Nw.use rfl (hE.w _ ex_m11)) ?_
  refine al_cons (hT _ qc_626) ?_
  refine al_cons (hT _ qc_627) ?_
  refine al_cons (hT _ qc_628) ?_
  refine al_cons (hT _ qc_630) ?_
  refine al_cons (hT _ qc_632) ?_
  refine al_cons (hT _ qc_634) ?_
  refine al_cons (zq_ref hE.us) ?_
  refine al_cons (zq_ref hE.ss) ?_
  refine al_cons (hT _ qc_638) ?_
  refine al_cons (hT _ qc_637) ?_
  refine al_cons (hT _ qc_636) ?_
  exact al_nil
theorem ow_iob {dA : Nat → ClassId} {z : Nat → Nat} {A : Nat → Prop} {s : State} {args : Array Value} (hT : ∀ w ∈ lw_gd, w.before args s = true) (hE : EX dA z A s s.heap) : ∀ a ∈ Bundle.ownAtoms "LineAssembler" 155 "java/lang/IndexOutOfBoundsException" nmR, a.before args s = true := by
  refine al_cons (hT _ qc_24) ?_
  refine al_cons (hT _ qc_639) ?_
  refine al_cons (hT _ qc_648) ?_
  refine al_cons (hT _ qc_653) ?_
  refine al_cons (hT _ qc_656) ?_
  refine al_cons (hT _ qc_658) ?_
  refine al_cons (hT _ qc_640) ?_
  refine al_cons (hT _ qc_641) ?_
  refine al_cons (hT _ qc_44) ?_
  refine al_cons (hT _ qc_45) ?_
  refine al_cons (hT _ qc_642) ?_
  refine al_cons (hT _ qc_647) ?_
  refine al_cons (hT _ qc_654) ?_
  refine al_cons (hT _ qc_861) ?_
  refine al_cons (hT _ qc_629) ?_
  refine al_cons (hT _ qc_862) ?_
  refine al_cons (hT _ qc_631) ?_
  refine al_cons (hT _ qc_863) ?_
  refine al_cons (hT _ qc_633) ?_
  refine al_cons (hT _ qc_643) ?_
  refine al_cons (ex_LS.use hE.ul) ?_
  refine al_cons (hT _ qc_645) ?_
  refine al_cons (ex_LS.use hE.sl) ?_
  refine al_cons (hT _ qc_635) ?_
  refine al_cons (hT _ qc_857) ?_
  refine al_cons (hT _ qc_858) ?_
  refine al_cons (hT _ qc_860) ?_
  refine al_cons (hT _ qc_635) ?_
  refine al_cons (hT _ qc_905) ?_
  refine al_cons (hT _ qc_906) ?_
  refine al_cons (hT _ qc_907) ?_
  refine al_cons (hT _ qc_851) ?_
  refine al_cons (va_Nw.use rfl (hE.w _ ex_m14)) ?_
  refine al_cons (hT _ qc_851) ?_
  refine al_cons (hT _ qc_852) ?_
  refine al_cons (hT _ qc_853) ?_
  refine al_cons (hT _ qc_854) ?_
  refine al_cons (va_Nw.use rfl (hE.w _ ex_m15)) ?_
  refine al_cons (hT _ qc_854) ?_
  refine al_cons (hT _ qc_855) ?_
  refine al_cons (hT _ qc_856) ?_
  refine al_cons (hT _ qc_857) ?_
  refine al_cons (va_Nw.use rfl (hE.w _ ex_m16)) ?_
  refine al_cons (hT _ qc_1451) ?_
  refine al_cons (hT _ qc_1442) ?_
  refine al_cons (va_Nw.use rfl (hE.w _ ex_m13)) ?_
  refine al_cons (hT _ qc_1444) ?_
  refine al_cons (hT _ qc_652) ?_
  refine al_cons (hT _ qc_1445) ?_
  refine al_cons (hT _ qc_1446) ?_
  refine al_cons (hT _ qc_1447) ?_
  refine al_cons (hT _ qc_1448) ?_
  refine al_cons (zq_ref hE.us) ?_
  refine al_cons (zq_ref hE.ss) ?_
  refine al_cons (hT _ qc_638) ?_
  refine al_cons (hT _ qc_637) ?_
  refine al_cons (hT _ qc_1449) ?_
  exact al_nil
section
variable {p : Program} {l : Launch} {e : Env} {s : State} {m : MethodId} {args : Array Value} {below : List Frame} {meth : Method} {c : Code} {D : va_G} {dA : Nat → ClassId} {z : Nat → Nat} {o b i : Nat → Nat} {A : Nat → Prop}
def T_Asm_size (x1 : Int32) (sG : CS) (sR : CS) (sL : CS) (sX : CS) (sE : CS) (sY : CS) (sF : CS) (sN : CS) (sT : CS) (sP : CS) (sI : CS) : Option Int32 :=
  (if (sG.1 0) = 0 then some (1 : Int32) else (if x1 = (0 : Int32) then none else (if x1 = (1 : Int32) then none else (if x1 = (2 : Int32) then cr (C_Prg_end  sP sI) (fun r2 => none) else (if x1 = (3 : Int32) then none else (if x1 = (4 : Int32) then none else (if x1 = (5 : Int32) then none else some (2 : Int32))))))))
set_option maxHeartbeats 4000000 in
set_option maxRecDepth 100000 in
theorem bT_Asm_size_0  {r : Int32} (C : CxC R_Asm p s m args meth c cC_Asm_size 2 (some .int) D dA (zz o) A) (hexc : c.exceptionTable.isEmpty = true) (htr : l.stackTraces = false) (x1 : Int32) (sG : CS) (sR : CS) (sL : CS) (sX : CS) (sE : CS) (sY : CS) (sF : CS) (sN : CS) (sT : CS) (sP : CS) (sI : CS) (hM : T_Asm_size  x1 sG sR sL sX sE sY sF sN sT sP sI = some r) (hW : WdC D A s (w_Asm dA o b i sG sR sL sX sE sY sF sN sT sP sI) s.heap []) (ls : Array Slot) (hl : lv_has ls 2 [(0, .ref (o 144)), (1, .int x1)]) : W p l e (rmC 8 200 1 6) s m args below meth c s.heap [] 0 0 (MX below r s) (F0 m 0 ls []) := by
  have hx := C.1.1
  have hb := C.1.2.1
  have hown := C.1.2.2.2.2.1
  have hT := C.1.2.2.2.2.2.1
  unfold T_Asm_size at hM
  refine lv_aload_n (pc := 0) hx hb dC_Asm_size_0 rfl (lv_at hl 0 rfl) ?_
  refine x_getC (pc := 1) C hW 0 rfl (ci := 10) rfl i_Asm 9 (by decide) qc_563 rfl rfl dC_Asm_size_1 ?_
  refine lv_if_ne (pc := 4) (tgt := 17) hx hb dC_Asm_size_4 (by decide) (fun hc => ?_) (fun hc => ?_)
  · replace hM := it_f hc hM
    refine lv_iload_n (pc := 17) hx hb dC_Asm_size_17 rfl (lv_at hl 1 rfl) ?_
    by_cases k1_0 : x1 = (0 : Int32)
    · replace hM := it_t k1_0 hM
      refine lv_tableIn (pc := 18) (off := 38) (tgt := 56) hx hb dC_Asm_size_18 (by rw [k1_0]; decide) (by rw [k1_0]; decide) (by rw [k1_0]; decide) (by decide) ?_
      refine lv_aload_n (pc := 56) hx hb dC_Asm_size_56 rfl (lv_at hl 0 rfl) ?_
      refine x_getC (pc := 57) C hW 0 rfl (ci := 10) rfl i_Asm 4 (by decide) qc_558 rfl rfl dC_Asm_size_57 ?_
      refine x_getC (pc := 60) C hW 45 rfl (ci := 5) rfl i_Prg 3 (by decide) qc_394 rfl rfl dC_Asm_size_60 ?_
      cases hM
    · replace hM := it_f k1_0 hM
      by_cases k1_1 : x1 = (1 : Int32)
      · replace hM := it_t k1_1 hM
        refine lv_tableIn (pc := 18) (off := 46) (tgt := 64) hx hb dC_Asm_size_18 (by rw [k1_1]; decide) (by rw [k1_1]; decide) (by rw [k1_1]; decide) (by decide) ?_
        refine lv_aload_n (pc := 64) hx hb dC_Asm_size_64 rfl (lv_at hl 0 rfl) ?_
        refine x_getC (pc := 65) C hW 0 rfl (ci := 10) rfl i_Asm 4 (by decide) qc_558 rfl rfl dC_Asm_size_65 ?_
        refine x_getC (pc := 68) C hW 45 rfl (ci := 5) rfl i_Prg 4 (by decide) qc_396 rfl rfl dC_Asm_size_68 ?_
        cases hM
      · replace hM := it_f k1_1 hM
        by_cases k1_2 : x1 = (2 : Int32)
        · replace hM := it_t k1_2 hM
          refine lv_tableIn (pc := 18) (off := 54) (tgt := 72) hx hb dC_Asm_size_18 (by rw [k1_2]; decide) (by rw [k1_2]; decide) (by rw [k1_2]; decide) (by decide) ?_
          refine lv_aload_n (pc := 72) hx hb dC_Asm_size_72 rfl (lv_at hl 0 rfl) ?_
          refine x_getC (pc := 73) C hW 0 rfl (ci := 10) rfl i_Asm 4 (by decide) qc_558 rfl rfl dC_Asm_size_73 ?_
          obtain ⟨r2, hr2, hM⟩ := cr_some hM
          refine x_callQ (pc := 76) (n' := 52) (ov := some (.int r2)) C hW (kC_Prg_end l D dA o b i  sP sI hr2) [45, 46, 47, 48, 49, 50, 51, 0, 1, 2, 3, 4, 5, 6, 7, 8, 9, 10, 11, 12, 13, 14, 15, 16, 17, 18, 19, 20, 21, 22, 23, 24, 25, 26, 27, 28, 29, 30, 31, 32, 33, 34, 35, 36, 37, 38, 39, 40, 41, 42, 43, 44] rfl (by decide +kernel) rfl (ci := 5) rfl (q0 := 45) rfl gC_Asm_116 ⟨rfl, by decide, by decide, by decide +kernel⟩ ⟨Nat.le_of_ble_eq_true rfl, Nat.le_of_ble_eq_true rfl⟩ ⟨Nat.le_of_ble_eq_true rfl, Nat.le_of_ble_eq_true rfl⟩ (As := []) (n := 0) rfl hl.1 rfl (Nat.le_of_ble_eq_true rfl) dC_Asm_size_76 ?_
          cases hM
        · replace hM := it_f k1_2 hM
          by_cases k1_3 : x1 = (3 : Int32)
          · replace hM := it_t k1_3 hM
            refine lv_tableIn (pc := 18) (off := 62) (tgt := 80) hx hb dC_Asm_size_18 (by rw [k1_3]; decide) (by rw [k1_3]; decide) (by rw [k1_3]; decide) (by decide) ?_
            refine lv_aload_n (pc := 80) hx hb dC_Asm_size_80 rfl (lv_at hl 0 rfl) ?_
            refine x_getC (pc := 81) C hW 0 rfl (ci := 10) rfl i_Asm 4 (by decide) qc_558 rfl rfl dC_Asm_size_81 ?_
            refine x_getC (pc := 84) C hW 45 rfl (ci := 5) rfl i_Prg 0 (by decide) qc_386 rfl rfl dC_Asm_size_84 ?_
            refine x_getC (pc := 87) C hW 46 rfl (ci := 1) rfl i_Row 0 (by decide) qc_54 rfl rfl dC_Asm_size_87 ?_
            cases hM
          · replace hM := it_f k1_3 hM
            by_cases k1_4 : x1 = (4 : Int32)
            · replace hM := it_t k1_4 hM
              refine lv_tableIn (pc := 18) (off := 73) (tgt := 91) hx hb dC_Asm_size_18 (by rw [k1_4]; decide) (by rw [k1_4]; decide) (by rw [k1_4]; decide) (by decide) ?_
              refine lv_aload_n (pc := 91) hx hb dC_Asm_size_91 rfl (lv_at hl 0 rfl) ?_
              refine x_getC (pc := 92) C hW 0 rfl (ci := 10) rfl i_Asm 4 (by decide) qc_558 rfl rfl dC_Asm_size_92 ?_
              refine x_getC (pc := 95) C hW 45 rfl (ci := 5) rfl i_Prg 1 (by decide) qc_388 rfl rfl dC_Asm_size_95 ?_
              cases hM
            · replace hM := it_f k1_4 hM
              by_cases k1_5 : x1 = (5 : Int32)
              · replace hM := it_t k1_5 hM
                refine lv_tableIn (pc := 18) (off := 81) (tgt := 99) hx hb dC_Asm_size_18 (by rw [k1_5]; decide) (by rw [k1_5]; decide) (by rw [k1_5]; decide) (by decide) ?_
                refine lv_aload_n (pc := 99) hx hb dC_Asm_size_99 rfl (lv_at hl 0 rfl) ?_
                refine x_getC (pc := 100) C hW 0 rfl (ci := 10) rfl i_Asm 8 (by decide) qc_562 rfl rfl dC_Asm_size_100 ?_
                refine x_getC (pc := 103) C hW 5 rfl (ci := 9) rfl i_Enc 2 (by decide) qc_537 rfl rfl dC_Asm_size_103 ?_
                cases hM
              · replace hM := it_f k1_5 hM
                by_cases k1_o : x1.toInt < 0 ∨ 5 < x1.toInt
                · refine lv_tableOut (pc := 18) (tgt := 107) hx hb dC_Asm_size_18 k1_o (by decide) ?_
                  obtain rfl := sm_i hM
                  exact x_throw (pc := 107) C hexc htr (k := 2) (X := "java/lang/IllegalArgumentException") rfl (ow_iae hT C.2.2.2) (by decide +kernel) qc_1430 qc_618 qc_27 (i := 21) (r := ("LineAssembler", 148, "no such size")) rfl rfl rfl hl.1 dC_Asm_size_107 dC_Asm_size_110 dC_Asm_size_111 dC_Asm_size_113 dC_Asm_size_116
                · refine lv_tableIn (pc := 18) (off := 89) (tgt := 107) hx hb dC_Asm_size_18 (fun z => k1_o (Or.inl z)) (fun z => k1_o (Or.inr z)) (lv_tdef 6 [(0 : Int32), (1 : Int32), (2 : Int32), (3 : Int32), (4 : Int32), (5 : Int32)] (fun z => k1_o (Or.inl z)) (fun z => k1_o (Or.inr z)) (List.forall_mem_cons.mpr ⟨k1_0, (List.forall_mem_cons.mpr ⟨k1_1, (List.forall_mem_cons.mpr ⟨k1_2, (List.forall_mem_cons.mpr ⟨k1_3, (List.forall_mem_cons.mpr ⟨k1_4, (List.forall_mem_cons.mpr ⟨k1_5, (fun _ h => by cases h)⟩)⟩)⟩)⟩)⟩)⟩) (by decide) (by decide +kernel)) (by decide) ?_
                  obtain rfl := sm_i hM
                  exact x_throw (pc := 107) C hexc htr (k := 2) (X := "java/lang/IllegalArgumentException") rfl (ow_iae hT C.2.2.2) (by decide +kernel) qc_1430 qc_618 qc_27 (i := 21) (r := ("LineAssembler", 148, "no such size")) rfl rfl rfl hl.1 dC_Asm_size_107 dC_Asm_size_110 dC_Asm_size_111 dC_Asm_size_113 dC_Asm_size_116
  · replace hM := it_t hc hM
    obtain rfl := sm_i hM
    exact x_throw (pc := 7) C hexc htr (k := 1) (X := "java/lang/IllegalStateException") rfl (ow_ise hT C.2.2.2) (by decide +kernel) qc_1414 qc_1415 qc_37 (i := 20) (r := ("LineAssembler", 126, "nothing is assembled")) rfl rfl rfl hl.1 dC_Asm_size_7 dC_Asm_size_10 dC_Asm_size_11 dC_Asm_size_13 dC_Asm_size_16
theorem kT_Asm_size (l : Launch) (D : va_G) (dA : Nat → ClassId) (o b i : Nat → Nat) (x1 : Int32) (sG : CS) (sR : CS) (sL : CS) (sX : CS) (sE : CS) (sY : CS) (sF : CS) (sN : CS) (sT : CS) (sP : CS) (sI : CS) {r : Int32} (htr : l.stackTraces = false) (hM : T_Asm_size x1 sG sR sL sX sE sY sF sN sT sP sI = some r) : KX l D dA (zz o) yC_Asm_size cC_Asm_size 2 (some .int) 8 200 (w_Asm dA o b i sG sR sL sX sE sY sF sN sT sP sI) [.ref (o 144), .int x1] r := x_enterX (by decide +kernel) (Nat.le_of_ble_eq_true rfl) (fun p e s m args below meth c A C hexc hW ls hl => bT_Asm_size_0 C hexc htr x1 sG sR sL sX sE sY sF sN sT sP sI hM hW ls hl)
def T_Asm_byteAt_22  (sG : CS) (sR : CS) (sL : CS) (sX : CS) (sE : CS) (sY : CS) (sF : CS) (sN : CS) (sT : CS) (sP : CS) (sI : CS) : Option Int32 :=
  some (3 : Int32)
set_option maxHeartbeats 4000000 in
set_option maxRecDepth 100000 in
theorem bT_Asm_byteAt_22  {r : Int32} (C : CxC R_Asm p s m args meth c cC_Asm_byteAt 2 (some .int) D dA (zz o) A) (hexc : c.exceptionTable.isEmpty = true) (htr : l.stackTraces = false)  (sG : CS) (sR : CS) (sL : CS) (sX : CS) (sE : CS) (sY : CS) (sF : CS) (sN : CS) (sT : CS) (sP : CS) (sI : CS) (hM : T_Asm_byteAt_22   sG sR sL sX sE sY sF sN sT sP sI = some r) (hW : WdC D A s (w_Asm dA o b i sG sR sL sX sE sY sF sN sT sP sI) s.heap []) (ls : Array Slot) (hl : lv_has ls 2 []) : W p l e (rmC 8 200 1 6) s m args below meth c s.heap [] 0 0 (MX below r s) (F0 m 22 ls []) := by
  have hx := C.1.1
  have hb := C.1.2.1
  have hown := C.1.2.2.2.2.1
  have hT := C.1.2.2.2.2.2.1
  unfold T_Asm_byteAt_22 at hM
  obtain rfl := sm_i hM
  exact x_throw (pc := 22) C hexc htr (k := 3) (X := "java/lang/IndexOutOfBoundsException") rfl (ow_iob hT C.2.2.2) (by decide +kernel) qc_1441 qc_1442 qc_32 (i := 22) (r := ("LineAssembler", 153, "no such byte")) rfl rfl rfl hl.1 dC_Asm_byteAt_22 dC_Asm_byteAt_25 dC_Asm_byteAt_26 dC_Asm_byteAt_28 dC_Asm_byteAt_31
def T_Asm_byteAt (x1 : Int32) (sG : CS) (sR : CS) (sL : CS) (sX : CS) (sE : CS) (sY : CS) (sF : CS) (sN : CS) (sT : CS) (sP : CS) (sI : CS) : Option Int32 :=
  (if (sG.1 0) = 0 then T_Asm_byteAt_22  sG sR sL sX sE sY sF sN sT sP sI else (if x1 < 0 then T_Asm_byteAt_22  sG sR sL sX sE sY sF sN sT sP sI else cr (C_Prg_end  sP sI) (fun r1 => (if x1 < r1 then cr (C_Row_get  x1 (rg sE 0)) (fun r2 => none) else T_Asm_byteAt_22  sG sR sL sX sE sY sF sN sT sP sI))))
set_option maxHeartbeats 4000000 in
set_option maxRecDepth 100000 in
theorem bT_Asm_byteAt_0  {r : Int32} (C : CxC R_Asm p s m args meth c cC_Asm_byteAt 2 (some .int) D dA (zz o) A) (hexc : c.exceptionTable.isEmpty = true) (htr : l.stackTraces = false) (x1 : Int32) (sG : CS) (sR : CS) (sL : CS) (sX : CS) (sE : CS) (sY : CS) (sF : CS) (sN : CS) (sT : CS) (sP : CS) (sI : CS) (hM : T_Asm_byteAt  x1 sG sR sL sX sE sY sF sN sT sP sI = some r) (hW : WdC D A s (w_Asm dA o b i sG sR sL sX sE sY sF sN sT sP sI) s.heap []) (ls : Array Slot) (hl : lv_has ls 2 [(0, .ref (o 144)), (1, .int x1)]) : W p l e (rmC 8 200 1 6) s m args below meth c s.heap [] 0 0 (MX below r s) (F0 m 0 ls []) := by
  have hx := C.1.1
  have hb := C.1.2.1
  have hown := C.1.2.2.2.2.1
  have hT := C.1.2.2.2.2.2.1
  unfold T_Asm_byteAt at hM
  refine lv_aload_n (pc := 0) hx hb dC_Asm_byteAt_0 rfl (lv_at hl 0 rfl) ?_
  refine x_getC (pc := 1) C hW 0 rfl (ci := 10) rfl i_Asm 9 (by decide) qc_563 rfl rfl dC_Asm_byteAt_1 ?_
  refine lv_if_eq (pc := 4) (tgt := 22) hx hb dC_Asm_byteAt_4 (by decide) (fun hc => ?_) (fun hc => ?_)
  · replace hM := it_t hc hM
    exact bT_Asm_byteAt_22  C hexc htr  _ _ _ _ _ _ _ _ _ _ _ hM hW _ (lv_sub hl [] rfl)
  · replace hM := it_f hc hM
    refine lv_iload_n (pc := 7) hx hb dC_Asm_byteAt_7 rfl (lv_at hl 1 rfl) ?_
    refine lv_if_lt (pc := 8) (tgt := 22) hx hb dC_Asm_byteAt_8 (by decide) (fun hc => ?_) (fun hc => ?_)
    · replace hM := it_t hc hM
      exact bT_Asm_byteAt_22  C hexc htr  _ _ _ _ _ _ _ _ _ _ _ hM hW _ (lv_sub hl [] rfl)
    · replace hM := it_f hc hM
      refine lv_iload_n (pc := 11) hx hb dC_Asm_byteAt_11 rfl (lv_at hl 1 rfl) ?_
      refine lv_aload_n (pc := 12) hx hb dC_Asm_byteAt_12 rfl (lv_at hl 0 rfl) ?_
      refine x_getC (pc := 13) C hW 0 rfl (ci := 10) rfl i_Asm 4 (by decide) qc_558 rfl rfl dC_Asm_byteAt_13 ?_
      obtain ⟨r1, hr1, hM⟩ := cr_some hM
      refine x_callQ (pc := 16) (n' := 52) (ov := some (.int r1)) C hW (kC_Prg_end l D dA o b i  sP sI hr1) [45, 46, 47, 48, 49, 50, 51, 0, 1, 2, 3, 4, 5, 6, 7, 8, 9, 10, 11, 12, 13, 14, 15, 16, 17, 18, 19, 20, 21, 22, 23, 24, 25, 26, 27, 28, 29, 30, 31, 32, 33, 34, 35, 36, 37, 38, 39, 40, 41, 42, 43, 44] rfl (by decide +kernel) rfl (ci := 5) rfl (q0 := 45) rfl gC_Asm_116 ⟨rfl, by decide, by decide, by decide +kernel⟩ ⟨Nat.le_of_ble_eq_true rfl, Nat.le_of_ble_eq_true rfl⟩ ⟨Nat.le_of_ble_eq_true rfl, Nat.le_of_ble_eq_true rfl⟩ (As := []) (n := 0) rfl hl.1 rfl (Nat.le_of_ble_eq_true rfl) dC_Asm_byteAt_16 ?_
      refine lv_icmp_lt (pc := 19) (tgt := 32) hx hb dC_Asm_byteAt_19 (by decide) (fun hc => ?_) (fun hc => ?_)
      · replace hM := it_t hc hM
        refine lv_aload_n (pc := 32) hx hb dC_Asm_byteAt_32 rfl (lv_at hl 0 rfl) ?_
        refine x_getC (pc := 33) C hW 0 rfl (ci := 10) rfl i_Asm 8 (by decide) qc_562 rfl rfl dC_Asm_byteAt_33 ?_
        refine x_getC (pc := 36) C hW 5 rfl (ci := 9) rfl i_Enc 0 (by decide) qc_533 rfl rfl dC_Asm_byteAt_36 ?_
        refine lv_iload_n (pc := 39) hx hb dC_Asm_byteAt_39 rfl (lv_at hl 1 rfl) ?_
        obtain ⟨r2, hr2, hM⟩ := cr_some hM
        refine x_callQ (pc := 40) (n' := 52) (ov := some (.int r2)) C hW (kC_Row_get l D dA (zz o) (fun _ => o 129) (fun _ => b 129)  x1 (rg sE 0) hr2) [6, 7, 0, 1, 2, 3, 4, 5, 8, 9, 10, 11, 12, 13, 14, 15, 16, 17, 18, 19, 20, 21, 22, 23, 24, 25, 26, 27, 28, 29, 30, 31, 32, 33, 34, 35, 36, 37, 38, 39, 40, 41, 42, 43, 44, 45, 46, 47, 48, 49, 50, 51] rfl (by decide +kernel) rfl (ci := 1) rfl (q0 := 6) rfl gC_Asm_159 ⟨rfl, by decide, by decide, by decide +kernel⟩ ⟨Nat.le_of_ble_eq_true rfl, Nat.le_of_ble_eq_true rfl⟩ ⟨Nat.le_of_ble_eq_true rfl, Nat.le_of_ble_eq_true rfl⟩ (As := [.int x1]) (n := 1) rfl hl.1 rfl (Nat.le_of_ble_eq_true rfl) dC_Asm_byteAt_40 ?_
        cases hM
      · replace hM := it_f hc hM
        exact bT_Asm_byteAt_22  C hexc htr  _ _ _ _ _ _ _ _ _ _ _ hM hW _ (lv_sub hl [] rfl)
theorem kT_Asm_byteAt (l : Launch) (D : va_G) (dA : Nat → ClassId) (o b i : Nat → Nat) (x1 : Int32) (sG : CS) (sR : CS) (sL : CS) (sX : CS) (sE : CS) (sY : CS) (sF : CS) (sN : CS) (sT : CS) (sP : CS) (sI : CS) {r : Int32} (htr : l.stackTraces = false) (hM : T_Asm_byteAt x1 sG sR sL sX sE sY sF sN sT sP sI = some r) : KX l D dA (zz o) yC_Asm_byteAt cC_Asm_byteAt 2 (some .int) 8 200 (w_Asm dA o b i sG sR sL sX sE sY sF sN sT sP sI) [.ref (o 144), .int x1] r := x_enterX (by decide +kernel) (Nat.le_of_ble_eq_true rfl) (fun p e s m args below meth c A C hexc hW ls hl => bT_Asm_byteAt_0 C hexc htr x1 sG sR sL sX sE sY sF sN sT sP sI hM hW ls hl)
def T_Asm_address (x1 : Int32) (sG : CS) (sR : CS) (sL : CS) (sX : CS) (sE : CS) (sY : CS) (sF : CS) (sN : CS) (sT : CS) (sP : CS) (sI : CS) : Option Int32 :=
  cr (C_Asm_isLabel  x1 sG sR sL sX sE sY sF sN sT sP sI) (fun r1 => (if r1 = 0 then some (3 : Int32) else cr (C_Row_get  x1 (rg sP 0)) (fun r2 => cr (C_Prg_addressOf  r2 sP sI) (fun r3 => none))))
set_option maxHeartbeats 4000000 in
set_option maxRecDepth 100000 in
theorem bT_Asm_address_0  {r : Int32} (C : CxC R_Asm p s m args meth c cC_Asm_address 2 (some .int) D dA (zz o) A) (hexc : c.exceptionTable.isEmpty = true) (htr : l.stackTraces = false) (x1 : Int32) (sG : CS) (sR : CS) (sL : CS) (sX : CS) (sE : CS) (sY : CS) (sF : CS) (sN : CS) (sT : CS) (sP : CS) (sI : CS) (hM : T_Asm_address  x1 sG sR sL sX sE sY sF sN sT sP sI = some r) (hW : WdC D A s (w_Asm dA o b i sG sR sL sX sE sY sF sN sT sP sI) s.heap []) (ls : Array Slot) (hl : lv_has ls 2 [(0, .ref (o 144)), (1, .int x1)]) : W p l e (rmC 8 200 1 6) s m args below meth c s.heap [] 0 0 (MX below r s) (F0 m 0 ls []) := by
  have hx := C.1.1
  have hb := C.1.2.1
  have hown := C.1.2.2.2.2.1
  have hT := C.1.2.2.2.2.2.1
  unfold T_Asm_address at hM
  refine lv_aload_n (pc := 0) hx hb dC_Asm_address_0 rfl (lv_at hl 0 rfl) ?_
  refine lv_iload_n (pc := 1) hx hb dC_Asm_address_1 rfl (lv_at hl 1 rfl) ?_
  obtain ⟨r1, hr1, hM⟩ := cr_some hM
  refine x_callQ (pc := 2) (n' := 52) (ov := some (.int r1)) C hW (kC_Asm_isLabel l D dA o b i  x1 sG sR sL sX sE sY sF sN sT sP sI hr1) [0, 1, 2, 3, 4, 5, 6, 7, 8, 9, 10, 11, 12, 13, 14, 15, 16, 17, 18, 19, 20, 21, 22, 23, 24, 25, 26, 27, 28, 29, 30, 31, 32, 33, 34, 35, 36, 37, 38, 39, 40, 41, 42, 43, 44, 45, 46, 47, 48, 49, 50, 51] rfl (by decide +kernel) rfl (ci := 10) rfl (q0 := 0) rfl gC_Asm_162 ⟨rfl, by decide, by decide, by decide +kernel⟩ ⟨Nat.le_of_ble_eq_true rfl, Nat.le_of_ble_eq_true rfl⟩ ⟨Nat.le_of_ble_eq_true rfl, Nat.le_of_ble_eq_true rfl⟩ (As := [.int x1]) (n := 1) rfl hl.1 rfl (Nat.le_of_ble_eq_true rfl) dC_Asm_address_2 ?_
  refine lv_if_ne (pc := 5) (tgt := 18) hx hb dC_Asm_address_5 (by decide) (fun hc => ?_) (fun hc => ?_)
  · replace hM := it_f hc hM
    refine lv_aload_n (pc := 18) hx hb dC_Asm_address_18 rfl (lv_at hl 0 rfl) ?_
    refine x_getC (pc := 19) C hW 0 rfl (ci := 10) rfl i_Asm 4 (by decide) qc_558 rfl rfl dC_Asm_address_19 ?_
    refine lv_aload_n (pc := 22) hx hb dC_Asm_address_22 rfl (lv_at hl 0 rfl) ?_
    refine x_getC (pc := 23) C hW 0 rfl (ci := 10) rfl i_Asm 4 (by decide) qc_558 rfl rfl dC_Asm_address_23 ?_
    refine x_getC (pc := 26) C hW 45 rfl (ci := 5) rfl i_Prg 0 (by decide) qc_386 rfl rfl dC_Asm_address_26 ?_
    refine lv_iload_n (pc := 29) hx hb dC_Asm_address_29 rfl (lv_at hl 1 rfl) ?_
    obtain ⟨r2, hr2, hM⟩ := cr_some hM
    refine x_callQ (pc := 30) (n' := 52) (ov := some (.int r2)) C hW (kC_Row_get l D dA (zz o) (fun _ => o 65) (fun _ => b 65)  x1 (rg sP 0) hr2) [46, 47, 0, 1, 2, 3, 4, 5, 6, 7, 8, 9, 10, 11, 12, 13, 14, 15, 16, 17, 18, 19, 20, 21, 22, 23, 24, 25, 26, 27, 28, 29, 30, 31, 32, 33, 34, 35, 36, 37, 38, 39, 40, 41, 42, 43, 44, 45, 48, 49, 50, 51] rfl (by decide +kernel) rfl (ci := 1) rfl (q0 := 46) rfl gC_Asm_159 ⟨rfl, by decide, by decide, by decide +kernel⟩ ⟨Nat.le_of_ble_eq_true rfl, Nat.le_of_ble_eq_true rfl⟩ ⟨Nat.le_of_ble_eq_true rfl, Nat.le_of_ble_eq_true rfl⟩ (As := [.int x1]) (n := 1) rfl hl.1 rfl (Nat.le_of_ble_eq_true rfl) dC_Asm_address_30 ?_
    obtain ⟨r3, hr3, hM⟩ := cr_some hM
    refine x_callQ (pc := 33) (n' := 52) (ov := some (.int r3)) C hW (kC_Prg_addressOf l D dA o b i  r2 sP sI hr3) [45, 46, 47, 48, 49, 50, 51, 0, 1, 2, 3, 4, 5, 6, 7, 8, 9, 10, 11, 12, 13, 14, 15, 16, 17, 18, 19, 20, 21, 22, 23, 24, 25, 26, 27, 28, 29, 30, 31, 32, 33, 34, 35, 36, 37, 38, 39, 40, 41, 42, 43, 44] rfl (by decide +kernel) rfl (ci := 5) rfl (q0 := 45) rfl gC_Asm_167 ⟨rfl, by decide, by decide, by decide +kernel⟩ ⟨Nat.le_of_ble_eq_true rfl, Nat.le_of_ble_eq_true rfl⟩ ⟨Nat.le_of_ble_eq_true rfl, Nat.le_of_ble_eq_true rfl⟩ (As := [.int r2]) (n := 1) rfl hl.1 rfl (Nat.le_of_ble_eq_true rfl) dC_Asm_address_33 ?_
    cases hM
  · replace hM := it_t hc hM
    obtain rfl := sm_i hM
    exact x_throw (pc := 8) C hexc htr (k := 3) (X := "java/lang/IndexOutOfBoundsException") rfl (ow_iob hT C.2.2.2) (by decide +kernel) qc_1441 qc_1442 qc_32 (i := 23) (r := ("LineAssembler", 165, "no such label")) rfl rfl rfl hl.1 dC_Asm_address_8 dC_Asm_address_11 dC_Asm_address_12 dC_Asm_address_14 dC_Asm_address_17
theorem kT_Asm_address (l : Launch) (D : va_G) (dA : Nat → ClassId) (o b i : Nat → Nat) (x1 : Int32) (sG : CS) (sR : CS) (sL : CS) (sX : CS) (sE : CS) (sY : CS) (sF : CS) (sN : CS) (sT : CS) (sP : CS) (sI : CS) {r : Int32} (htr : l.stackTraces = false) (hM : T_Asm_address x1 sG sR sL sX sE sY sF sN sT sP sI = some r) : KX l D dA (zz o) yC_Asm_address cC_Asm_address 2 (some .int) 8 200 (w_Asm dA o b i sG sR sL sX sE sY sF sN sT sP sI) [.ref (o 144), .int x1] r := x_enterX (by decide +kernel) (Nat.le_of_ble_eq_true rfl) (fun p e s m args below meth c A C hexc hW ls hl => bT_Asm_address_0 C hexc htr x1 sG sR sL sX sE sY sF sN sT sP sI hM hW ls hl)
def T_Asm_letter_50  (sG : CS) (sR : CS) (sL : CS) (sX : CS) (sE : CS) (sY : CS) (sF : CS) (sN : CS) (sT : CS) (sP : CS) (sI : CS) : Option Int32 :=
  some (3 : Int32)
set_option maxHeartbeats 4000000 in
set_option maxRecDepth 100000 in
theorem bT_Asm_letter_50  {r : Int32} (C : CxC R_Asm p s m args meth c cC_Asm_letter 4 (some .char) D dA (zz o) A) (hexc : c.exceptionTable.isEmpty = true) (htr : l.stackTraces = false)  (sG : CS) (sR : CS) (sL : CS) (sX : CS) (sE : CS) (sY : CS) (sF : CS) (sN : CS) (sT : CS) (sP : CS) (sI : CS) (hM : T_Asm_letter_50   sG sR sL sX sE sY sF sN sT sP sI = some r) (hW : WdC D A s (w_Asm dA o b i sG sR sL sX sE sY sF sN sT sP sI) s.heap []) (ls : Array Slot) (hl : lv_has ls 4 []) : W p l e (rmC 8 200 1 6) s m args below meth c s.heap [] 0 0 (MX below r s) (F0 m 50 ls []) := by
  have hx := C.1.1
  have hb := C.1.2.1
  have hown := C.1.2.2.2.2.1
  have hT := C.1.2.2.2.2.2.1
  unfold T_Asm_letter_50 at hM
  obtain rfl := sm_i hM
  exact x_throw (pc := 50) C hexc htr (k := 3) (X := "java/lang/IndexOutOfBoundsException") rfl (ow_iob hT C.2.2.2) (by decide +kernel) qc_1441 qc_1442 qc_32 (i := 24) (r := ("LineAssembler", 182, "no such letter")) rfl rfl rfl hl.1 dC_Asm_letter_50 dC_Asm_letter_53 dC_Asm_letter_54 dC_Asm_letter_56 dC_Asm_letter_59
def T_Asm_letter_33 (x2 : Int32) (t0 : Int32) (sG : CS) (sR : CS) (sL : CS) (sX : CS) (sE : CS) (sY : CS) (sF : CS) (sN : CS) (sT : CS) (sP : CS) (sI : CS) : Option Int32 :=
  (if x2 < 0 then T_Asm_letter_50  sG sR sL sX sE sY sF sN sT sP sI else cr (C_Nam_lengthOf  t0 sN) (fun r1 => (if x2 < r1 then cr (C_Nam_letterOf  t0 x2 sN) (fun r2 => none) else T_Asm_letter_50  sG sR sL sX sE sY sF sN sT sP sI)))
set_option maxHeartbeats 4000000 in
set_option maxRecDepth 100000 in
theorem bT_Asm_letter_33  {r : Int32} (C : CxC R_Asm p s m args meth c cC_Asm_letter 4 (some .char) D dA (zz o) A) (hexc : c.exceptionTable.isEmpty = true) (htr : l.stackTraces = false) (x2 : Int32) (t0 : Int32) (sG : CS) (sR : CS) (sL : CS) (sX : CS) (sE : CS) (sY : CS) (sF : CS) (sN : CS) (sT : CS) (sP : CS) (sI : CS) (hM : T_Asm_letter_33  x2 t0 sG sR sL sX sE sY sF sN sT sP sI = some r) (hW : WdC D A s (w_Asm dA o b i sG sR sL sX sE sY sF sN sT sP sI) s.heap []) (ls : Array Slot) (hl : lv_has ls 4 [(0, .ref (o 144)), (2, .int x2)]) : W p l e (rmC 8 200 1 6) s m args below meth c s.heap [] 0 0 (MX below r s) (F0 m 33 ls [.int t0]) := by
  have hx := C.1.1
  have hb := C.1.2.1
  have hown := C.1.2.2.2.2.1
  have hT := C.1.2.2.2.2.2.1
  unfold T_Asm_letter_33 at hM
  refine lv_istore_n (pc := 33) (lv' := [(3, .int t0), (0, .ref (o 144)), (2, .int x2)]) hx hb dC_Asm_letter_33 rfl hl (by decide) rfl (fun ls hl => ?_)
  refine lv_iload_n (pc := 34) hx hb dC_Asm_letter_34 rfl (lv_at hl 2 rfl) ?_
  refine lv_if_lt (pc := 35) (tgt := 50) hx hb dC_Asm_letter_35 (by decide) (fun hc => ?_) (fun hc => ?_)
  · replace hM := it_t hc hM
    exact bT_Asm_letter_50  C hexc htr  _ _ _ _ _ _ _ _ _ _ _ hM hW _ (lv_sub hl [] rfl)
  · replace hM := it_f hc hM
    refine lv_iload_n (pc := 38) hx hb dC_Asm_letter_38 rfl (lv_at hl 2 rfl) ?_
    refine lv_aload_n (pc := 39) hx hb dC_Asm_letter_39 rfl (lv_at hl 1 rfl) ?_
    refine x_getC (pc := 40) C hW 0 rfl (ci := 10) rfl i_Asm 1 (by decide) qc_555 rfl rfl dC_Asm_letter_40 ?_
    refine lv_iload_n (pc := 43) hx hb dC_Asm_letter_43 rfl (lv_at hl 0 rfl) ?_
    obtain ⟨r1, hr1, hM⟩ := cr_some hM
    refine x_callQ (pc := 44) (n' := 52) (ov := some (.int r1)) C hW (kC_Nam_lengthOf l D dA (zz o) o b  t0 sN hr1) [21, 22, 23, 24, 25, 26, 27, 28, 29, 30, 31, 32, 33, 34, 35, 36, 37, 38, 39, 40, 0, 1, 2, 3, 4, 5, 6, 7, 8, 9, 10, 11, 12, 13, 14, 15, 16, 17, 18, 19, 20, 41, 42, 43, 44, 45, 46, 47, 48, 49, 50, 51] rfl (by decide +kernel) rfl (ci := 2) rfl (q0 := 21) rfl gC_Asm_179 ⟨rfl, by decide, by decide, by decide +kernel⟩ ⟨Nat.le_of_ble_eq_true rfl, Nat.le_of_ble_eq_true rfl⟩ ⟨Nat.le_of_ble_eq_true rfl, Nat.le_of_ble_eq_true rfl⟩ (As := [.int t0]) (n := 1) rfl hl.1 rfl (Nat.le_of_ble_eq_true rfl) dC_Asm_letter_44 ?_
    refine lv_icmp_lt (pc := 47) (tgt := 60) hx hb dC_Asm_letter_47 (by decide) (fun hc => ?_) (fun hc => ?_)
    · replace hM := it_t hc hM
      refine lv_aload_n (pc := 60) hx hb dC_Asm_letter_60 rfl (lv_at hl 1 rfl) ?_
      refine x_getC (pc := 61) C hW 0 rfl (ci := 10) rfl i_Asm 1 (by decide) qc_555 rfl rfl dC_Asm_letter_61 ?_
      refine lv_iload_n (pc := 64) hx hb dC_Asm_letter_64 rfl (lv_at hl 0 rfl) ?_
      refine lv_iload_n (pc := 65) hx hb dC_Asm_letter_65 rfl (lv_at hl 2 rfl) ?_
      obtain ⟨r2, hr2, hM⟩ := cr_some hM
      refine x_callQ (pc := 66) (n' := 52) (ov := some (.int r2)) C hW (kC_Nam_letterOf l D dA (zz o) o b  t0 x2 sN hr2) [21, 22, 23, 24, 25, 26, 27, 28, 29, 30, 31, 32, 33, 34, 35, 36, 37, 38, 39, 40, 0, 1, 2, 3, 4, 5, 6, 7, 8, 9, 10, 11, 12, 13, 14, 15, 16, 17, 18, 19, 20, 41, 42, 43, 44, 45, 46, 47, 48, 49, 50, 51] rfl (by decide +kernel) rfl (ci := 2) rfl (q0 := 21) rfl gC_Asm_184 ⟨rfl, by decide, by decide, by decide +kernel⟩ ⟨Nat.le_of_ble_eq_true rfl, Nat.le_of_ble_eq_true rfl⟩ ⟨Nat.le_of_ble_eq_true rfl, Nat.le_of_ble_eq_true rfl⟩ (As := [.int t0, .int x2]) (n := 2) rfl hl.1 rfl (Nat.le_of_ble_eq_true rfl) dC_Asm_letter_66 ?_
      refine lv_i2c (pc := 69) (v := (r2.toUInt32 % 65536).toInt32) hx hb dC_Asm_letter_69 rfl ?_
      cases hM
    · replace hM := it_f hc hM
      exact bT_Asm_letter_50  C hexc htr  _ _ _ _ _ _ _ _ _ _ _ hM hW _ (lv_sub hl [] rfl)
def T_Asm_letter (x1 : Int32) (x2 : Int32) (sG : CS) (sR : CS) (sL : CS) (sX : CS) (sE : CS) (sY : CS) (sF : CS) (sN : CS) (sT : CS) (sP : CS) (sI : CS) : Option Int32 :=
  cr (C_Asm_isLabel  x1 sG sR sL sX sE sY sF sN sT sP sI) (fun r1 => (if r1 = 0 then T_Asm_letter_33  x2 (-1 : Int32) sG sR sL sX sE sY sF sN sT sP sI else cr (C_Row_get  x1 (rg sP 0)) (fun r2 => cr (C_Prg_find  r2 sP sI) (fun r3 => gd (decide (r3 < sI.2.2 0 + 1)) (T_Asm_letter_33  x2 (sI.2.1 r3 3) sG sR sL sX sE sY sF sN sT sP sI)))))
set_option maxHeartbeats 4000000 in
set_option maxRecDepth 100000 in
theorem bT_Asm_letter_0  {r : Int32} (C : CxC R_Asm p s m args meth c cC_Asm_letter 4 (some .char) D dA (zz o) A) (hexc : c.exceptionTable.isEmpty = true) (htr : l.stackTraces = false) (x1 : Int32) (x2 : Int32) (sG : CS) (sR : CS) (sL : CS) (sX : CS) (sE : CS) (sY : CS) (sF : CS) (sN : CS) (sT : CS) (sP : CS) (sI : CS) (hM : T_Asm_letter  x1 x2 sG sR sL sX sE sY sF sN sT sP sI = some r) (hW : WdC D A s (w_Asm dA o b i sG sR sL sX sE sY sF sN sT sP sI) s.heap []) (ls : Array Slot) (hl : lv_has ls 4 [(0, .ref (o 144)), (1, .int x1), (2, .int x2)]) : W p l e (rmC 8 200 1 6) s m args below meth c s.heap [] 0 0 (MX below r s) (F0 m 0 ls []) := by
  have hx := C.1.1
  have hb := C.1.2.1
  have hown := C.1.2.2.2.2.1
  have hT := C.1.2.2.2.2.2.1
  unfold T_Asm_letter at hM
  refine lv_aload_n (pc := 0) hx hb dC_Asm_letter_0 rfl (lv_at hl 0 rfl) ?_
  refine lv_iload_n (pc := 1) hx hb dC_Asm_letter_1 rfl (lv_at hl 1 rfl) ?_
  obtain ⟨r1, hr1, hM⟩ := cr_some hM
  refine x_callQ (pc := 2) (n' := 52) (ov := some (.int r1)) C hW (kC_Asm_isLabel l D dA o b i  x1 sG sR sL sX sE sY sF sN sT sP sI hr1) [0, 1, 2, 3, 4, 5, 6, 7, 8, 9, 10, 11, 12, 13, 14, 15, 16, 17, 18, 19, 20, 21, 22, 23, 24, 25, 26, 27, 28, 29, 30, 31, 32, 33, 34, 35, 36, 37, 38, 39, 40, 41, 42, 43, 44, 45, 46, 47, 48, 49, 50, 51] rfl (by decide +kernel) rfl (ci := 10) rfl (q0 := 0) rfl gC_Asm_162 ⟨rfl, by decide, by decide, by decide +kernel⟩ ⟨Nat.le_of_ble_eq_true rfl, Nat.le_of_ble_eq_true rfl⟩ ⟨Nat.le_of_ble_eq_true rfl, Nat.le_of_ble_eq_true rfl⟩ (As := [.int x1]) (n := 1) rfl hl.1 rfl (Nat.le_of_ble_eq_true rfl) dC_Asm_letter_2 ?_
  refine lv_if_eq (pc := 5) (tgt := 32) hx hb dC_Asm_letter_5 (by decide) (fun hc => ?_) (fun hc => ?_)
  · replace hM := it_t hc hM
    refine lv_iconst (pc := 32) (v := -1) hx hb dC_Asm_letter_32 (by decide) ?_
    exact bT_Asm_letter_33  C hexc htr  _ _ _ _ _ _ _ _ _ _ _ _ _ hM hW _ (lv_sub hl [0, 2] rfl)
  · replace hM := it_f hc hM
    refine lv_aload_n (pc := 8) hx hb dC_Asm_letter_8 rfl (lv_at hl 0 rfl) ?_
    refine x_getC (pc := 9) C hW 0 rfl (ci := 10) rfl i_Asm 4 (by decide) qc_558 rfl rfl dC_Asm_letter_9 ?_
    refine lv_aload_n (pc := 12) hx hb dC_Asm_letter_12 rfl (lv_at hl 0 rfl) ?_
    refine x_getC (pc := 13) C hW 0 rfl (ci := 10) rfl i_Asm 4 (by decide) qc_558 rfl rfl dC_Asm_letter_13 ?_
    refine x_getC (pc := 16) C hW 45 rfl (ci := 5) rfl i_Prg 0 (by decide) qc_386 rfl rfl dC_Asm_letter_16 ?_
    refine lv_iload_n (pc := 19) hx hb dC_Asm_letter_19 rfl (lv_at hl 1 rfl) ?_
    obtain ⟨r2, hr2, hM⟩ := cr_some hM
    refine x_callQ (pc := 20) (n' := 52) (ov := some (.int r2)) C hW (kC_Row_get l D dA (zz o) (fun _ => o 65) (fun _ => b 65)  x1 (rg sP 0) hr2) [46, 47, 0, 1, 2, 3, 4, 5, 6, 7, 8, 9, 10, 11, 12, 13, 14, 15, 16, 17, 18, 19, 20, 21, 22, 23, 24, 25, 26, 27, 28, 29, 30, 31, 32, 33, 34, 35, 36, 37, 38, 39, 40, 41, 42, 43, 44, 45, 48, 49, 50, 51] rfl (by decide +kernel) rfl (ci := 1) rfl (q0 := 46) rfl gC_Asm_159 ⟨rfl, by decide, by decide, by decide +kernel⟩ ⟨Nat.le_of_ble_eq_true rfl, Nat.le_of_ble_eq_true rfl⟩ ⟨Nat.le_of_ble_eq_true rfl, Nat.le_of_ble_eq_true rfl⟩ (As := [.int x1]) (n := 1) rfl hl.1 rfl (Nat.le_of_ble_eq_true rfl) dC_Asm_letter_20 ?_
    obtain ⟨r3, hr3, hM⟩ := cr_some hM
    refine x_callQ (pc := 23) (n' := 52) (ov := some (.ref (pa o i r3))) C hW (kC_Prg_find l D dA o b i  r2 sP sI hr3) [45, 46, 47, 48, 49, 50, 51, 0, 1, 2, 3, 4, 5, 6, 7, 8, 9, 10, 11, 12, 13, 14, 15, 16, 17, 18, 19, 20, 21, 22, 23, 24, 25, 26, 27, 28, 29, 30, 31, 32, 33, 34, 35, 36, 37, 38, 39, 40, 41, 42, 43, 44] rfl (by decide +kernel) rfl (ci := 5) rfl (q0 := 45) rfl gC_Asm_170 ⟨rfl, by decide, by decide, by decide +kernel⟩ ⟨Nat.le_of_ble_eq_true rfl, Nat.le_of_ble_eq_true rfl⟩ ⟨Nat.le_of_ble_eq_true rfl, Nat.le_of_ble_eq_true rfl⟩ (As := [.int r2]) (n := 1) rfl hl.1 rfl (Nat.le_of_ble_eq_true rfl) dC_Asm_letter_23 ?_
    obtain ⟨hg4, hM⟩ := gd_some hM
    refine x_getI (pc := 26) C hW 51 rfl (of_decide_eq_true hg4) 3 (by decide) qc_347 rfl rfl dC_Asm_letter_26 ?_
    refine lv_goto (pc := 29) (tgt := 33) hx hb dC_Asm_letter_29 (by decide) ?_
    exact bT_Asm_letter_33  C hexc htr  _ _ _ _ _ _ _ _ _ _ _ _ _ hM hW _ (lv_sub hl [0, 2] rfl)
theorem kT_Asm_letter (l : Launch) (D : va_G) (dA : Nat → ClassId) (o b i : Nat → Nat) (x1 : Int32) (x2 : Int32) (sG : CS) (sR : CS) (sL : CS) (sX : CS) (sE : CS) (sY : CS) (sF : CS) (sN : CS) (sT : CS) (sP : CS) (sI : CS) {r : Int32} (htr : l.stackTraces = false) (hM : T_Asm_letter x1 x2 sG sR sL sX sE sY sF sN sT sP sI = some r) : KX l D dA (zz o) yC_Asm_letter cC_Asm_letter 4 (some .char) 8 200 (w_Asm dA o b i sG sR sL sX sE sY sF sN sT sP sI) [.ref (o 144), .int x1, .int x2] r := x_enterX (by decide +kernel) (Nat.le_of_ble_eq_true rfl) (fun p e s m args below meth c A C hexc hW ls hl => bT_Asm_letter_0 C hexc htr x1 x2 sG sR sL sX sE sY sF sN sT sP sI hM hW ls hl)
end
