theorem qsc_0 : Cond.selects "LineAssembler$Names" (⟨"LineAssembler$Names", "enterOperation", "(LLineAssembler$Op;I)V"⟩ : MethodName) ⟨"LineAssembler$Names", "enterOperation", "(LLineAssembler$Op;I)V"⟩ ∈ lw_gd := lw_gds (List.mem_of_getElem? (i := 0) (by decide +kernel)) (by decide +kernel)
theorem qsc_4 : Cond.selects "LineAssembler$Names" (⟨"LineAssembler$Names", "enterNumbered", "()V"⟩ : MethodName) ⟨"LineAssembler$Names", "enterNumbered", "()V"⟩ ∈ lw_gd := lw_gds (List.mem_of_getElem? (i := 4) (by decide +kernel)) (by decide +kernel)
theorem qsc_6 : Cond.selects "LineAssembler$Names" (⟨"LineAssembler$Names", "enterRow", "(Ljava/lang/String;I)V"⟩ : MethodName) ⟨"LineAssembler$Names", "enterRow", "(Ljava/lang/String;I)V"⟩ ∈ lw_gd := lw_gds (List.mem_of_getElem? (i := 6) (by decide +kernel)) (by decide +kernel)
theorem qsc_7 : Cond.selects "LineAssembler$Names" (⟨"LineAssembler$Names", "enter", "(Ljava/lang/String;)I"⟩ : MethodName) ⟨"LineAssembler$Names", "enter", "(Ljava/lang/String;)I"⟩ ∈ lw_gd := lw_gds (List.mem_of_getElem? (i := 7) (by decide +kernel)) (by decide +kernel)
theorem qc_69 : (Jvm.Cond.methodLink "LineAssembler$Names" (1 : Nat) ({ cls := "java/lang/Object", name := "<init>", desc := "()V" } : Jvm.MethodName)) ∈ lw_gd := uc_0 (List.mem_of_getElem? (i := 69) (by decide +kernel)) (by decide +kernel)
theorem qc_70 : (Jvm.Cond.classLink "LineAssembler$Names" (7 : Nat) "LineAssembler$Row") ∈ lw_gd := uc_0 (List.mem_of_getElem? (i := 70) (by decide +kernel)) (by decide +kernel)
theorem qc_94 : (Jvm.Cond.methodLink "LineAssembler$Names" (58 : Nat) ({ cls := "LineAssembler$Names", name := "enterOperation", desc := "(LLineAssembler$Op;I)V" } : Jvm.MethodName)) ∈ lw_gd := uc_0 (List.mem_of_getElem? (i := 94) (by decide +kernel)) (by decide +kernel)
theorem qc_96 : (Jvm.Cond.instanceMethod ({ cls := "LineAssembler$Names", name := "enterOperation", desc := "(LLineAssembler$Op;I)V" } : Jvm.MethodName)) ∈ lw_gd := uc_0 (List.mem_of_getElem? (i := 96) (by decide +kernel)) (by decide +kernel)
theorem qc_97 : (Jvm.Cond.code ({ cls := "LineAssembler$Names", name := "enterOperation", desc := "(LLineAssembler$Op;I)V" } : Jvm.MethodName) prog_7_method_12_code (3 : Nat) (Option.none : Option Jvm.ClassFile.FieldType)) ∈ lw_gd := uc_0 (List.mem_of_getElem? (i := 97) (by decide +kernel)) (by decide +kernel)
theorem qc_193 : (Jvm.Cond.methodLink "LineAssembler$Names" (62 : Nat) ({ cls := "LineAssembler$Names", name := "enterNumbered", desc := "()V" } : Jvm.MethodName)) ∈ lw_gd := uc_0 (List.mem_of_getElem? (i := 193) (by decide +kernel)) (by decide +kernel)
theorem qc_195 : (Jvm.Cond.instanceMethod ({ cls := "LineAssembler$Names", name := "enterNumbered", desc := "()V" } : Jvm.MethodName)) ∈ lw_gd := uc_0 (List.mem_of_getElem? (i := 195) (by decide +kernel)) (by decide +kernel)
theorem qc_196 : (Jvm.Cond.code ({ cls := "LineAssembler$Names", name := "enterNumbered", desc := "()V" } : Jvm.MethodName) prog_7_method_14_code (2 : Nat) (Option.none : Option Jvm.ClassFile.FieldType)) ∈ lw_gd := uc_0 (List.mem_of_getElem? (i := 196) (by decide +kernel)) (by decide +kernel)
theorem qc_202 : (Jvm.Cond.methodLink "LineAssembler$Names" (67 : Nat) ({ cls := "LineAssembler$Names", name := "enterRow", desc := "(Ljava/lang/String;I)V" } : Jvm.MethodName)) ∈ lw_gd := uc_0 (List.mem_of_getElem? (i := 202) (by decide +kernel)) (by decide +kernel)
theorem qc_204 : (Jvm.Cond.instanceMethod ({ cls := "LineAssembler$Names", name := "enterRow", desc := "(Ljava/lang/String;I)V" } : Jvm.MethodName)) ∈ lw_gd := uc_0 (List.mem_of_getElem? (i := 204) (by decide +kernel)) (by decide +kernel)
theorem qc_205 : (Jvm.Cond.code ({ cls := "LineAssembler$Names", name := "enterRow", desc := "(Ljava/lang/String;I)V" } : Jvm.MethodName) prog_7_method_15_code (6 : Nat) (Option.none : Option Jvm.ClassFile.FieldType)) ∈ lw_gd := uc_0 (List.mem_of_getElem? (i := 205) (by decide +kernel)) (by decide +kernel)
theorem qc_209 : (Jvm.Cond.methodLink "LineAssembler$Names" (77 : Nat) ({ cls := "LineAssembler$Names", name := "enter", desc := "(Ljava/lang/String;)I" } : Jvm.MethodName)) ∈ lw_gd := uc_0 (List.mem_of_getElem? (i := 209) (by decide +kernel)) (by decide +kernel)
theorem qc_211 : (Jvm.Cond.instanceMethod ({ cls := "LineAssembler$Names", name := "enter", desc := "(Ljava/lang/String;)I" } : Jvm.MethodName)) ∈ lw_gd := uc_0 (List.mem_of_getElem? (i := 211) (by decide +kernel)) (by decide +kernel)
theorem qc_212 : (Jvm.Cond.code ({ cls := "LineAssembler$Names", name := "enter", desc := "(Ljava/lang/String;)I" } : Jvm.MethodName) prog_7_method_11_code (2 : Nat) (Option.some Jvm.ClassFile.FieldType.int)) ∈ lw_gd := uc_0 (List.mem_of_getElem? (i := 212) (by decide +kernel)) (by decide +kernel)
theorem qc_225 : (Jvm.Cond.fieldLink "LineAssembler$Names" (81 : Nat) "LineAssembler$Names" "dot" "I") ∈ lw_gd := uc_0 (List.mem_of_getElem? (i := 225) (by decide +kernel)) (by decide +kernel)
theorem qc_227 : (Jvm.Cond.fieldLink "LineAssembler$Names" (86 : Nat) "LineAssembler$Names" "hi" "I") ∈ lw_gd := uc_0 (List.mem_of_getElem? (i := 227) (by decide +kernel)) (by decide +kernel)
theorem qc_229 : (Jvm.Cond.fieldLink "LineAssembler$Names" (90 : Nat) "LineAssembler$Names" "lo" "I") ∈ lw_gd := uc_0 (List.mem_of_getElem? (i := 229) (by decide +kernel)) (by decide +kernel)
theorem gC_Nam_58 : GoodIn lw_gd (wsV R_Nam 58 R_Nam yC_Nam_enterOperation (.code yC_Nam_enterOperation cC_Nam_enterOperation 3 none :: lw_gd)) := lw_GV qc_97 qc_94 qc_96 qsc_0 qc_3
theorem gC_Nam_62 : GoodIn lw_gd (wsV R_Nam 62 R_Nam yC_Nam_enterNumbered (.code yC_Nam_enterNumbered cC_Nam_enterNumbered 2 none :: lw_gd)) := lw_GV qc_196 qc_193 qc_195 qsc_4 qc_3
theorem gC_Nam_67 : GoodIn lw_gd (wsV R_Nam 67 R_Nam yC_Nam_enterRow (.code yC_Nam_enterRow cC_Nam_enterRow 6 none :: lw_gd)) := lw_GV qc_205 qc_202 qc_204 qsc_6 qc_3
theorem gC_Nam_77 : GoodIn lw_gd (wsV R_Nam 77 R_Nam yC_Nam_enter (.code yC_Nam_enter cC_Nam_enter 2 (some .int) :: lw_gd)) := lw_GV qc_212 qc_209 qc_211 qsc_7 qc_3
def N0s : CS := (fun _ => 0, fun _ _ => 0, fun k => if k = 20 then 512 else 64)
abbrev cC_Nam_init : ByteArray := prog_7_method_1_code
def yC_Nam_init : MethodName := ⟨R_Nam, "<init>", "()V"⟩
theorem dC_Nam_init_117 : decode cC_Nam_init 117 = .ok (.aload_n 0, 1) := by decide +kernel
theorem dC_Nam_init_118 : decode cC_Nam_init 118 = .ok (.getfield 38, 3) := by decide +kernel
theorem dC_Nam_init_121 : decode cC_Nam_init 121 = .ok (.iconst (0), 1) := by decide +kernel
theorem dC_Nam_init_122 : decode cC_Nam_init 122 = .ok (.invokevirtual 48, 3) := by decide +kernel
theorem dC_Nam_init_125 : decode cC_Nam_init 125 = .ok (.iconst (0), 1) := by decide +kernel
theorem dC_Nam_init_126 : decode cC_Nam_init 126 = .ok (.istore_n 1, 1) := by decide +kernel
theorem dC_Nam_init_127 : decode cC_Nam_init 127 = .ok (.iload_n 1, 1) := by decide +kernel
theorem dC_Nam_init_128 : decode cC_Nam_init 128 = .ok (.getstatic 52, 3) := by decide +kernel
theorem dC_Nam_init_131 : decode cC_Nam_init 131 = .ok (.arraylength, 1) := by decide +kernel
theorem dC_Nam_init_132 : decode cC_Nam_init 132 = .ok (.if_icmp .ge (19), 3) := by decide +kernel
theorem dC_Nam_init_135 : decode cC_Nam_init 135 = .ok (.aload_n 0, 1) := by decide +kernel
theorem dC_Nam_init_136 : decode cC_Nam_init 136 = .ok (.getstatic 52, 3) := by decide +kernel
theorem dC_Nam_init_139 : decode cC_Nam_init 139 = .ok (.iload_n 1, 1) := by decide +kernel
theorem dC_Nam_init_140 : decode cC_Nam_init 140 = .ok (.aaload, 1) := by decide +kernel
theorem dC_Nam_init_141 : decode cC_Nam_init 141 = .ok (.iload_n 1, 1) := by decide +kernel
theorem dC_Nam_init_142 : decode cC_Nam_init 142 = .ok (.invokevirtual 58, 3) := by decide +kernel
theorem dC_Nam_init_145 : decode cC_Nam_init 145 = .ok (.iinc 1 (1), 3) := by decide +kernel
theorem dC_Nam_init_148 : decode cC_Nam_init 148 = .ok (.goto (-21), 3) := by decide +kernel
theorem dC_Nam_init_151 : decode cC_Nam_init 151 = .ok (.aload_n 0, 1) := by decide +kernel
theorem dC_Nam_init_152 : decode cC_Nam_init 152 = .ok (.invokevirtual 62, 3) := by decide +kernel
theorem dC_Nam_init_155 : decode cC_Nam_init 155 = .ok (.aload_n 0, 1) := by decide +kernel
theorem dC_Nam_init_156 : decode cC_Nam_init 156 = .ok (.ldc 65, 2) := by decide +kernel
theorem dC_Nam_init_158 : decode cC_Nam_init 158 = .ok (.iconst (0), 1) := by decide +kernel
theorem dC_Nam_init_159 : decode cC_Nam_init 159 = .ok (.invokevirtual 67, 3) := by decide +kernel
theorem dC_Nam_init_162 : decode cC_Nam_init 162 = .ok (.aload_n 0, 1) := by decide +kernel
theorem dC_Nam_init_163 : decode cC_Nam_init 163 = .ok (.ldc 71, 2) := by decide +kernel
theorem dC_Nam_init_165 : decode cC_Nam_init 165 = .ok (.bipush (18), 2) := by decide +kernel
theorem dC_Nam_init_167 : decode cC_Nam_init 167 = .ok (.invokevirtual 67, 3) := by decide +kernel
theorem dC_Nam_init_170 : decode cC_Nam_init 170 = .ok (.aload_n 0, 1) := by decide +kernel
theorem dC_Nam_init_171 : decode cC_Nam_init 171 = .ok (.ldc 73, 2) := by decide +kernel
theorem dC_Nam_init_173 : decode cC_Nam_init 173 = .ok (.bipush (8), 2) := by decide +kernel
theorem dC_Nam_init_175 : decode cC_Nam_init 175 = .ok (.invokevirtual 67, 3) := by decide +kernel
theorem dC_Nam_init_178 : decode cC_Nam_init 178 = .ok (.aload_n 0, 1) := by decide +kernel
theorem dC_Nam_init_179 : decode cC_Nam_init 179 = .ok (.aload_n 0, 1) := by decide +kernel
theorem dC_Nam_init_180 : decode cC_Nam_init 180 = .ok (.ldc 75, 2) := by decide +kernel
theorem dC_Nam_init_182 : decode cC_Nam_init 182 = .ok (.invokevirtual 77, 3) := by decide +kernel
theorem dC_Nam_init_185 : decode cC_Nam_init 185 = .ok (.putfield 81, 3) := by decide +kernel
theorem dC_Nam_init_188 : decode cC_Nam_init 188 = .ok (.aload_n 0, 1) := by decide +kernel
theorem dC_Nam_init_189 : decode cC_Nam_init 189 = .ok (.aload_n 0, 1) := by decide +kernel
theorem dC_Nam_init_190 : decode cC_Nam_init 190 = .ok (.ldc 84, 2) := by decide +kernel
theorem dC_Nam_init_192 : decode cC_Nam_init 192 = .ok (.invokevirtual 77, 3) := by decide +kernel
theorem dC_Nam_init_195 : decode cC_Nam_init 195 = .ok (.putfield 86, 3) := by decide +kernel
theorem dC_Nam_init_198 : decode cC_Nam_init 198 = .ok (.aload_n 0, 1) := by decide +kernel
theorem dC_Nam_init_199 : decode cC_Nam_init 199 = .ok (.aload_n 0, 1) := by decide +kernel
theorem dC_Nam_init_200 : decode cC_Nam_init 200 = .ok (.ldc 88, 2) := by decide +kernel
theorem dC_Nam_init_202 : decode cC_Nam_init 202 = .ok (.invokevirtual 77, 3) := by decide +kernel
theorem dC_Nam_init_205 : decode cC_Nam_init 205 = .ok (.putfield 90, 3) := by decide +kernel
theorem dC_Nam_init_208 : decode cC_Nam_init 208 = .ok (.aload_n 0, 1) := by decide +kernel
theorem dC_Nam_init_209 : decode cC_Nam_init 209 = .ok (.aload_n 0, 1) := by decide +kernel
theorem dC_Nam_init_210 : decode cC_Nam_init 210 = .ok (.getfield 10, 3) := by decide +kernel
theorem dC_Nam_init_213 : decode cC_Nam_init 213 = .ok (.getfield 92, 3) := by decide +kernel
theorem dC_Nam_init_216 : decode cC_Nam_init 216 = .ok (.putfield 95, 3) := by decide +kernel
theorem dC_Nam_init_219 : decode cC_Nam_init 219 = .ok (.return_, 1) := by decide +kernel
theorem dC_Nam_init_0 : decode cC_Nam_init 0 = .ok (.aload_n 0, 1) := by decide +kernel
theorem dC_Nam_init_1 : decode cC_Nam_init 1 = .ok (.invokespecial 1, 3) := by decide +kernel
theorem dC_Nam_init_4 : decode cC_Nam_init 4 = .ok (.aload_n 0, 1) := by decide +kernel
theorem dC_Nam_init_5 : decode cC_Nam_init 5 = .ok (.new 7, 3) := by decide +kernel
theorem dC_Nam_init_8 : decode cC_Nam_init 8 = .ok (.dup, 1) := by decide +kernel
theorem dC_Nam_init_9 : decode cC_Nam_init 9 = .ok (.invokespecial 9, 3) := by decide +kernel
theorem dC_Nam_init_12 : decode cC_Nam_init 12 = .ok (.putfield 10, 3) := by decide +kernel
theorem dC_Nam_init_15 : decode cC_Nam_init 15 = .ok (.aload_n 0, 1) := by decide +kernel
theorem dC_Nam_init_16 : decode cC_Nam_init 16 = .ok (.new 7, 3) := by decide +kernel
theorem dC_Nam_init_19 : decode cC_Nam_init 19 = .ok (.dup, 1) := by decide +kernel
theorem dC_Nam_init_20 : decode cC_Nam_init 20 = .ok (.invokespecial 9, 3) := by decide +kernel
theorem dC_Nam_init_23 : decode cC_Nam_init 23 = .ok (.putfield 16, 3) := by decide +kernel
theorem dC_Nam_init_26 : decode cC_Nam_init 26 = .ok (.aload_n 0, 1) := by decide +kernel
theorem dC_Nam_init_27 : decode cC_Nam_init 27 = .ok (.new 7, 3) := by decide +kernel
theorem dC_Nam_init_30 : decode cC_Nam_init 30 = .ok (.dup, 1) := by decide +kernel
theorem dC_Nam_init_31 : decode cC_Nam_init 31 = .ok (.invokespecial 9, 3) := by decide +kernel
theorem dC_Nam_init_34 : decode cC_Nam_init 34 = .ok (.putfield 19, 3) := by decide +kernel
theorem dC_Nam_init_37 : decode cC_Nam_init 37 = .ok (.aload_n 0, 1) := by decide +kernel
theorem dC_Nam_init_38 : decode cC_Nam_init 38 = .ok (.new 7, 3) := by decide +kernel
theorem dC_Nam_init_41 : decode cC_Nam_init 41 = .ok (.dup, 1) := by decide +kernel
theorem dC_Nam_init_42 : decode cC_Nam_init 42 = .ok (.invokespecial 9, 3) := by decide +kernel
theorem dC_Nam_init_45 : decode cC_Nam_init 45 = .ok (.putfield 22, 3) := by decide +kernel
theorem dC_Nam_init_48 : decode cC_Nam_init 48 = .ok (.aload_n 0, 1) := by decide +kernel
theorem dC_Nam_init_49 : decode cC_Nam_init 49 = .ok (.new 7, 3) := by decide +kernel
theorem dC_Nam_init_52 : decode cC_Nam_init 52 = .ok (.dup, 1) := by decide +kernel
theorem dC_Nam_init_53 : decode cC_Nam_init 53 = .ok (.invokespecial 9, 3) := by decide +kernel
theorem dC_Nam_init_56 : decode cC_Nam_init 56 = .ok (.putfield 25, 3) := by decide +kernel
theorem dC_Nam_init_59 : decode cC_Nam_init 59 = .ok (.aload_n 0, 1) := by decide +kernel
theorem dC_Nam_init_60 : decode cC_Nam_init 60 = .ok (.sipush (512), 3) := by decide +kernel
theorem dC_Nam_init_63 : decode cC_Nam_init 63 = .ok (.newarray .int, 2) := by decide +kernel
theorem dC_Nam_init_65 : decode cC_Nam_init 65 = .ok (.putfield 28, 3) := by decide +kernel
theorem dC_Nam_init_68 : decode cC_Nam_init 68 = .ok (.aload_n 0, 1) := by decide +kernel
theorem dC_Nam_init_69 : decode cC_Nam_init 69 = .ok (.new 7, 3) := by decide +kernel
theorem dC_Nam_init_72 : decode cC_Nam_init 72 = .ok (.dup, 1) := by decide +kernel
theorem dC_Nam_init_73 : decode cC_Nam_init 73 = .ok (.invokespecial 9, 3) := by decide +kernel
theorem dC_Nam_init_76 : decode cC_Nam_init 76 = .ok (.putfield 32, 3) := by decide +kernel
theorem dC_Nam_init_79 : decode cC_Nam_init 79 = .ok (.aload_n 0, 1) := by decide +kernel
theorem dC_Nam_init_80 : decode cC_Nam_init 80 = .ok (.new 7, 3) := by decide +kernel
theorem dC_Nam_init_83 : decode cC_Nam_init 83 = .ok (.dup, 1) := by decide +kernel
theorem dC_Nam_init_84 : decode cC_Nam_init 84 = .ok (.invokespecial 9, 3) := by decide +kernel
theorem dC_Nam_init_87 : decode cC_Nam_init 87 = .ok (.putfield 35, 3) := by decide +kernel
theorem dC_Nam_init_90 : decode cC_Nam_init 90 = .ok (.aload_n 0, 1) := by decide +kernel
theorem dC_Nam_init_91 : decode cC_Nam_init 91 = .ok (.new 7, 3) := by decide +kernel
theorem dC_Nam_init_94 : decode cC_Nam_init 94 = .ok (.dup, 1) := by decide +kernel
theorem dC_Nam_init_95 : decode cC_Nam_init 95 = .ok (.invokespecial 9, 3) := by decide +kernel
theorem dC_Nam_init_98 : decode cC_Nam_init 98 = .ok (.putfield 38, 3) := by decide +kernel
theorem dC_Nam_init_101 : decode cC_Nam_init 101 = .ok (.aload_n 0, 1) := by decide +kernel
theorem dC_Nam_init_102 : decode cC_Nam_init 102 = .ok (.new 7, 3) := by decide +kernel
theorem dC_Nam_init_105 : decode cC_Nam_init 105 = .ok (.dup, 1) := by decide +kernel
theorem dC_Nam_init_106 : decode cC_Nam_init 106 = .ok (.invokespecial 9, 3) := by decide +kernel
theorem dC_Nam_init_109 : decode cC_Nam_init 109 = .ok (.putfield 41, 3) := by decide +kernel
theorem dC_Nam_init_112 : decode cC_Nam_init 112 = .ok (.aload_n 0, 1) := by decide +kernel
theorem dC_Nam_init_113 : decode cC_Nam_init 113 = .ok (.iconst (0), 1) := by decide +kernel
theorem dC_Nam_init_114 : decode cC_Nam_init 114 = .ok (.putfield 44, 3) := by decide +kernel
section
variable {p : Program} {l : Launch} {e : Env} {s : State} {m : MethodId} {args : Array Value} {below : List Frame} {meth : Method} {c : Code} {D : va_G} {dA : Nat → ClassId} {z : Nat → Nat} {o b i : Nat → Nat} {A : Nat → Prop}
def C_Nam_init_127 (N : Nat)  : Nat → Int32 → CS → Option ((Int32 × CS) × (Nat × Nat))
  | 0 => fun _ _ => none
  | n + 1 => fun x1 sN => (if (nI ex_nO) ≤ x1 then ct (C_Nam_enterNumbered N sN) (fun r1 u2 => ct (C_Nam_enterRow N 4 (0 : Int32) u2) (fun r8 u9 => ct (C_Nam_enterRow N 5 (18 : Int32) u9) (fun r15 u16 => ct (C_Nam_enterRow N 6 (8 : Int32) u16) (fun r22 u23 => ct (C_Nam_enter N 7 u23) (fun r29 u30 => bnd (cF u30 1 r29) (fun sN36 => ct (C_Nam_enter N 8 sN36) (fun r37 u38 => bnd (cF u38 2 r37) (fun sN44 => ct (C_Nam_enter N 9 sN44) (fun r45 u46 => bnd (cF u46 3 r45) (fun sN52 => bnd (cF sN52 4 (sN52.1 100)) (fun sN53 => some (((0 : Int32), sN53), (0, 0))))))))))))) else gd (inB x1 ex_nO) (ct (C_Nam_enterOperation N x1.toNatClampNeg x1 sN) (fun r55 u56 => (C_Nam_init_127 N  n) (x1 + (1 : Int32)) u56)))
set_option maxHeartbeats 4000000 in
set_option maxRecDepth 100000 in
theorem bC_Nam_init_127 (N : Nat)  {r : Int32} {u : CS} {DC DS : Nat} (C : CxC R_Nam p s m args meth c cC_Nam_init 2 none D dA z A) (hname : meth.name = "<init>") {Po : List va_W → Option Value → Prop} (hPo0 : ∀ b' : Nat → Nat, Po [(w_Nam dA o b' u).flatten] none) : ∀ (n : Nat) (x1 : Int32) (sN : CS) (dc ds kc ks : Nat) , C_Nam_init_127 N  n x1 sN = some ((r, u), (dc, ds)) → ∀ (hdc : kc + dc ≤ DC) (hds : ks + ds ≤ DS) (b : Nat → Nat) (H : Heap) (locs : List Loc) (hW : WdC D A s (w_Nam dA o b sN) H locs) (ls : Array Slot) (hl : lv_has ls 2 [(0, .ref (o 16)), (1, .int x1)]), W p l e (rmC 7 212 DC DS) s m args below meth c H locs kc ks (MQ below (QC D A Po) args s DC DS A) (F0 m 127 ls []) := by
  have hx := C.1.1
  have hb := C.1.2.1
  have hown := C.1.2.2.2.2.1
  have hT := C.1.2.2.2.2.2.1
  intro n
  induction n with
  | zero => intro x1 sN dc ds kc ks hM; cases hM
  | succ n hrec127 =>
    intro x1 sN dc ds kc ks hM hdc hds b H locs hW ls hl
    rw [C_Nam_init_127] at hM
    refine lv_iload_n (pc := 127) hx hb dC_Nam_init_127 rfl (lv_at hl 1 rfl) ?_
    refine va_getsN (pc := 128) (host := "LineAssembler") hx hb C.2.2.2.za hW.2.2 hown (va_Nw.use rfl (C.2.2.2.w _ ex_m8)) (fun _ h => h) dC_Nam_init_128 ?_
    refine va_tlen (pc := 131) (v := nI ex_nO) hx hb C.2.2.2.ta hW.2.2 rfl dC_Nam_init_131 ?_
    refine lv_icmp_ge (pc := 132) (tgt := 151) hx hb dC_Nam_init_132 (by decide) (fun hc => ?_) (fun hc => ?_)
    · replace hM := it_t hc hM
      refine lv_aload_n (pc := 151) hx hb dC_Nam_init_151 rfl (lv_at hl 0 rfl) ?_
      obtain ⟨r1, u2, da3, ea4, db5, eb6, hr1, hM, hqda3, hpda3⟩ := ct_some hM
      refine x_callC (pc := 152) (n' := 20) C hW (kC_Nam_enterNumbered l D dA z o b N sN hr1) [0, 1, 2, 3, 4, 5, 6, 7, 8, 9, 10, 11, 12, 13, 14, 15, 16, 17, 18, 19] rfl (by decide +kernel) rfl (ci := 2) rfl (q0 := 0) rfl gC_Nam_62 ⟨rfl, by decide, by decide, by decide +kernel⟩ ⟨Nat.le_of_ble_eq_true rfl, Nat.le_of_ble_eq_true rfl⟩ ⟨show _ + da3 ≤ DC by omega, show _ + ea4 ≤ DS by omega⟩ (As := []) (n := 0) rfl hl.1 rfl (Nat.le_of_ble_eq_true rfl) dC_Nam_init_152 (fun Wc' ov H locs hPo hWn => ?_)
      obtain ⟨b7, rfl, rfl⟩ := hPo
      have hW := hWn (w_Nam dA o (mxs [1] b7 b) u2) rfl rfl
      generalize mxs [1] b7 b = b at hW
      refine lv_aload_n (pc := 155) hx hb dC_Nam_init_155 rfl (lv_at hl 0 rfl) ?_
      refine va_ldcS (pc := 156) hx hb hown (ex_R (r := ("LineAssembler$Names", 65, "zero ra sp gp tp t0 t1 t2 s0 s1 a0 a1 a2 a3 a4 a5 a6 a7 ")) C.2.2.2 4 rfl) dC_Nam_init_156 ?_
      refine lv_iconst (pc := 158) (v := 0) hx hb dC_Nam_init_158 (by decide) ?_
      obtain ⟨r8, u9, da10, ea11, db12, eb13, hr8, hM, hqda10, hpda10⟩ := ct_some hM
      refine x_callC (pc := 159) (n' := 20) C hW (kC_Nam_enterRow l D dA z o b N 4 (0 : Int32) u2 hr8) [0, 1, 2, 3, 4, 5, 6, 7, 8, 9, 10, 11, 12, 13, 14, 15, 16, 17, 18, 19] rfl (by decide +kernel) rfl (ci := 2) rfl (q0 := 0) rfl gC_Nam_67 ⟨rfl, by decide, by decide, by decide +kernel⟩ ⟨Nat.le_of_ble_eq_true rfl, Nat.le_of_ble_eq_true rfl⟩ ⟨show _ + da10 ≤ DC by omega, show _ + ea11 ≤ DS by omega⟩ (As := [.ref (sK z 4), .int (0 : Int32)]) (n := 2) rfl hl.1 rfl (Nat.le_of_ble_eq_true rfl) dC_Nam_init_159 (fun Wc' ov H locs hPo hWn => ?_)
      obtain ⟨b14, rfl, rfl⟩ := hPo
      have hW := hWn (w_Nam dA o (mxs [1] b14 b) u9) rfl rfl
      generalize mxs [1] b14 b = b at hW
      refine lv_aload_n (pc := 162) hx hb dC_Nam_init_162 rfl (lv_at hl 0 rfl) ?_
      refine va_ldcS (pc := 163) hx hb hown (ex_R (r := ("LineAssembler$Names", 71, "s2 s3 s4 s5 s6 s7 s8 s9 s10 s11 t3 t4 t5 t6 ")) C.2.2.2 5 rfl) dC_Nam_init_163 ?_
      refine lv_bipush (pc := 165) (v := 18) hx hb dC_Nam_init_165 (by decide) ?_
      obtain ⟨r15, u16, da17, ea18, db19, eb20, hr15, hM, hqda17, hpda17⟩ := ct_some hM
      refine x_callC (pc := 167) (n' := 20) C hW (kC_Nam_enterRow l D dA z o b N 5 (18 : Int32) u9 hr15) [0, 1, 2, 3, 4, 5, 6, 7, 8, 9, 10, 11, 12, 13, 14, 15, 16, 17, 18, 19] rfl (by decide +kernel) rfl (ci := 2) rfl (q0 := 0) rfl gC_Nam_67 ⟨rfl, by decide, by decide, by decide +kernel⟩ ⟨Nat.le_of_ble_eq_true rfl, Nat.le_of_ble_eq_true rfl⟩ ⟨show _ + da17 ≤ DC by omega, show _ + ea18 ≤ DS by omega⟩ (As := [.ref (sK z 5), .int (18 : Int32)]) (n := 2) rfl hl.1 rfl (Nat.le_of_ble_eq_true rfl) dC_Nam_init_167 (fun Wc' ov H locs hPo hWn => ?_)
      obtain ⟨b21, rfl, rfl⟩ := hPo
      have hW := hWn (w_Nam dA o (mxs [1] b21 b) u16) rfl rfl
      generalize mxs [1] b21 b = b at hW
      refine lv_aload_n (pc := 170) hx hb dC_Nam_init_170 rfl (lv_at hl 0 rfl) ?_
      refine va_ldcS (pc := 171) hx hb hown (ex_R (r := ("LineAssembler$Names", 73, "fp ")) C.2.2.2 6 rfl) dC_Nam_init_171 ?_
      refine lv_bipush (pc := 173) (v := 8) hx hb dC_Nam_init_173 (by decide) ?_
      obtain ⟨r22, u23, da24, ea25, db26, eb27, hr22, hM, hqda24, hpda24⟩ := ct_some hM
      refine x_callC (pc := 175) (n' := 20) C hW (kC_Nam_enterRow l D dA z o b N 6 (8 : Int32) u16 hr22) [0, 1, 2, 3, 4, 5, 6, 7, 8, 9, 10, 11, 12, 13, 14, 15, 16, 17, 18, 19] rfl (by decide +kernel) rfl (ci := 2) rfl (q0 := 0) rfl gC_Nam_67 ⟨rfl, by decide, by decide, by decide +kernel⟩ ⟨Nat.le_of_ble_eq_true rfl, Nat.le_of_ble_eq_true rfl⟩ ⟨show _ + da24 ≤ DC by omega, show _ + ea25 ≤ DS by omega⟩ (As := [.ref (sK z 6), .int (8 : Int32)]) (n := 2) rfl hl.1 rfl (Nat.le_of_ble_eq_true rfl) dC_Nam_init_175 (fun Wc' ov H locs hPo hWn => ?_)
      obtain ⟨b28, rfl, rfl⟩ := hPo
      have hW := hWn (w_Nam dA o (mxs [1] b28 b) u23) rfl rfl
      generalize mxs [1] b28 b = b at hW
      refine lv_aload_n (pc := 178) hx hb dC_Nam_init_178 rfl (lv_at hl 0 rfl) ?_
      refine lv_aload_n (pc := 179) hx hb dC_Nam_init_179 rfl (lv_at hl 0 rfl) ?_
      refine va_ldcS (pc := 180) hx hb hown (ex_R (r := ("LineAssembler$Names", 75, ".")) C.2.2.2 7 rfl) dC_Nam_init_180 ?_
      obtain ⟨r29, u30, da31, ea32, db33, eb34, hr29, hM, hqda31, hpda31⟩ := ct_some hM
      refine x_callC (pc := 182) (n' := 20) C hW (kC_Nam_enter l D dA z o b N 7 u23 hr29) [0, 1, 2, 3, 4, 5, 6, 7, 8, 9, 10, 11, 12, 13, 14, 15, 16, 17, 18, 19] rfl (by decide +kernel) rfl (ci := 2) rfl (q0 := 0) rfl gC_Nam_77 ⟨rfl, by decide, by decide, by decide +kernel⟩ ⟨Nat.le_of_ble_eq_true rfl, Nat.le_of_ble_eq_true rfl⟩ ⟨show _ + da31 ≤ DC by omega, show _ + ea32 ≤ DS by omega⟩ (As := [.ref (sK z 7)]) (n := 1) rfl hl.1 rfl (Nat.le_of_ble_eq_true rfl) dC_Nam_init_182 (fun Wc' ov H locs hPo hWn => ?_)
      obtain ⟨b35, rfl, rfl⟩ := hPo
      have hW := hWn (w_Nam dA o (mxs [1] b35 b) u30) rfl rfl
      generalize mxs [1] b35 b = b at hW
      refine x_putF (pc := 185) (ty := .int) (Ws' := (w_Nam dA o b (cF u30 1 r29))) C hW 0 rfl (ci := 2) rfl i_Nam tok_Nam n_Nam 5 (by decide) qc_225 rfl rfl hname rfl (by decide +kernel) rfl rfl (Nat.le_of_ble_eq_true rfl) rfl dC_Nam_init_185 (fun H locs hW => ?_)
      obtain ⟨sN36, esN36, hM⟩ := bnd_some hM
      rw [← esN36] at hW
      refine lv_aload_n (pc := 188) hx hb dC_Nam_init_188 rfl (lv_at hl 0 rfl) ?_
      refine lv_aload_n (pc := 189) hx hb dC_Nam_init_189 rfl (lv_at hl 0 rfl) ?_
      refine va_ldcS (pc := 190) hx hb hown (ex_R (r := ("LineAssembler$Names", 84, "hi")) C.2.2.2 8 rfl) dC_Nam_init_190 ?_
      obtain ⟨r37, u38, da39, ea40, db41, eb42, hr37, hM, hqda39, hpda39⟩ := ct_some hM
      refine x_callC (pc := 192) (n' := 20) C hW (kC_Nam_enter l D dA z o b N 8 sN36 hr37) [0, 1, 2, 3, 4, 5, 6, 7, 8, 9, 10, 11, 12, 13, 14, 15, 16, 17, 18, 19] rfl (by decide +kernel) rfl (ci := 2) rfl (q0 := 0) rfl gC_Nam_77 ⟨rfl, by decide, by decide, by decide +kernel⟩ ⟨Nat.le_of_ble_eq_true rfl, Nat.le_of_ble_eq_true rfl⟩ ⟨show _ + da39 ≤ DC by omega, show _ + ea40 ≤ DS by omega⟩ (As := [.ref (sK z 8)]) (n := 1) rfl hl.1 rfl (Nat.le_of_ble_eq_true rfl) dC_Nam_init_192 (fun Wc' ov H locs hPo hWn => ?_)
      obtain ⟨b43, rfl, rfl⟩ := hPo
      have hW := hWn (w_Nam dA o (mxs [1] b43 b) u38) rfl rfl
      generalize mxs [1] b43 b = b at hW
      refine x_putF (pc := 195) (ty := .int) (Ws' := (w_Nam dA o b (cF u38 2 r37))) C hW 0 rfl (ci := 2) rfl i_Nam tok_Nam n_Nam 6 (by decide) qc_227 rfl rfl hname rfl (by decide +kernel) rfl rfl (Nat.le_of_ble_eq_true rfl) rfl dC_Nam_init_195 (fun H locs hW => ?_)
      obtain ⟨sN44, esN44, hM⟩ := bnd_some hM
      rw [← esN44] at hW
      refine lv_aload_n (pc := 198) hx hb dC_Nam_init_198 rfl (lv_at hl 0 rfl) ?_
      refine lv_aload_n (pc := 199) hx hb dC_Nam_init_199 rfl (lv_at hl 0 rfl) ?_
      refine va_ldcS (pc := 200) hx hb hown (ex_R (r := ("LineAssembler$Names", 88, "lo")) C.2.2.2 9 rfl) dC_Nam_init_200 ?_
      obtain ⟨r45, u46, da47, ea48, db49, eb50, hr45, hM, hqda47, hpda47⟩ := ct_some hM
      refine x_callC (pc := 202) (n' := 20) C hW (kC_Nam_enter l D dA z o b N 9 sN44 hr45) [0, 1, 2, 3, 4, 5, 6, 7, 8, 9, 10, 11, 12, 13, 14, 15, 16, 17, 18, 19] rfl (by decide +kernel) rfl (ci := 2) rfl (q0 := 0) rfl gC_Nam_77 ⟨rfl, by decide, by decide, by decide +kernel⟩ ⟨Nat.le_of_ble_eq_true rfl, Nat.le_of_ble_eq_true rfl⟩ ⟨show _ + da47 ≤ DC by omega, show _ + ea48 ≤ DS by omega⟩ (As := [.ref (sK z 9)]) (n := 1) rfl hl.1 rfl (Nat.le_of_ble_eq_true rfl) dC_Nam_init_202 (fun Wc' ov H locs hPo hWn => ?_)
      obtain ⟨b51, rfl, rfl⟩ := hPo
      have hW := hWn (w_Nam dA o (mxs [1] b51 b) u46) rfl rfl
      generalize mxs [1] b51 b = b at hW
      refine x_putF (pc := 205) (ty := .int) (Ws' := (w_Nam dA o b (cF u46 3 r45))) C hW 0 rfl (ci := 2) rfl i_Nam tok_Nam n_Nam 7 (by decide) qc_229 rfl rfl hname rfl (by decide +kernel) rfl rfl (Nat.le_of_ble_eq_true rfl) rfl dC_Nam_init_205 (fun H locs hW => ?_)
      obtain ⟨sN52, esN52, hM⟩ := bnd_some hM
      rw [← esN52] at hW
      refine lv_aload_n (pc := 208) hx hb dC_Nam_init_208 rfl (lv_at hl 0 rfl) ?_
      refine lv_aload_n (pc := 209) hx hb dC_Nam_init_209 rfl (lv_at hl 0 rfl) ?_
      refine x_getC (pc := 210) C hW 0 rfl (ci := 2) rfl i_Nam 0 (by decide) qc_215 rfl rfl dC_Nam_init_210 ?_
      refine x_getC (pc := 213) C hW 1 rfl (ci := 1) rfl i_Row 0 (by decide) qc_53 rfl rfl dC_Nam_init_213 ?_
      refine x_putF (pc := 216) (ty := .int) (Ws' := (w_Nam dA o b (cF sN52 4 (sN52.1 100)))) C hW 0 rfl (ci := 2) rfl i_Nam tok_Nam n_Nam 13 (by decide) qc_236 rfl rfl hname rfl (by decide +kernel) rfl rfl (Nat.le_of_ble_eq_true rfl) rfl dC_Nam_init_216 (fun H locs hW => ?_)
      obtain ⟨sN53, esN53, hM⟩ := bnd_some hM
      rw [← esN53] at hW
      have hW := hW.eqf (Ws' := [(w_Nam dA o b sN53).flatten]) (List.append_nil _).symm
      obtain ⟨rfl, rfl, rfl, rfl⟩ := sm_q hM
      exact x_retCv (pc := 219) C rfl hW (hPo0 _) (by omega) (by omega) dC_Nam_init_219
    · replace hM := it_f hc hM
      refine lv_aload_n (pc := 135) hx hb dC_Nam_init_135 rfl (lv_at hl 0 rfl) ?_
      refine va_getsN (pc := 136) (host := "LineAssembler") hx hb C.2.2.2.za hW.2.2 hown (va_Nw.use rfl (C.2.2.2.w _ ex_m8)) (fun _ h => h) dC_Nam_init_136 ?_
      refine lv_iload_n (pc := 139) hx hb dC_Nam_init_139 rfl (lv_at hl 1 rfl) ?_
      obtain ⟨hg54, hM⟩ := gd_some hM
      refine vb_tq (pc := 140) hx hb C.2.2.2.ta hW.2.2 (inB_in hg54) rfl dC_Nam_init_140 ?_
      refine lv_iload_n (pc := 141) hx hb dC_Nam_init_141 rfl (lv_at hl 1 rfl) ?_
      obtain ⟨r55, u56, da57, ea58, db59, eb60, hr55, hM, hqda57, hpda57⟩ := ct_some hM
      refine x_callC (pc := 142) (n' := 20) C hW (kC_Nam_enterOperation l D dA z o b N x1.toNatClampNeg x1 sN hr55) [0, 1, 2, 3, 4, 5, 6, 7, 8, 9, 10, 11, 12, 13, 14, 15, 16, 17, 18, 19] rfl (by decide +kernel) rfl (ci := 2) rfl (q0 := 0) rfl gC_Nam_58 ⟨rfl, by decide, by decide, by decide +kernel⟩ ⟨Nat.le_of_ble_eq_true rfl, Nat.le_of_ble_eq_true rfl⟩ ⟨show _ + da57 ≤ DC by omega, show _ + ea58 ≤ DS by omega⟩ (As := [.ref (oP z x1.toNatClampNeg), .int x1]) (n := 2) rfl hl.1 rfl (Nat.le_of_ble_eq_true rfl) dC_Nam_init_142 (fun Wc' ov H locs hPo hWn => ?_)
      obtain ⟨b61, rfl, rfl⟩ := hPo
      have hW := hWn (w_Nam dA o (mxs [1] b61 b) u56) rfl rfl
      generalize mxs [1] b61 b = b at hW
      refine lv_iinc (pc := 145) (v := x1 + (1 : Int32)) (lv' := [(1, .int (x1 + (1 : Int32))), (0, .ref (o 16))]) hx hb dC_Nam_init_145 hl (k := 1) rfl rfl (by decide) rfl (fun ls hl => ?_)
      refine lv_goto (pc := 148) (tgt := 127) hx hb dC_Nam_init_148 (by decide) ?_
      exact hrec127 _ _ _ _ _ _ hM (by omega) (by omega) _ _ _ hW _ (lv_sub hl [1, 0] rfl)
def C_Nam_init (N : Nat)  (sN : CS) : Option ((Int32 × CS) × (Nat × Nat)) :=
  ct (C_Row_add  (0 : Int32) (rg sN 7)) (fun r1 u2 => bnd (rs sN 7 u2) (fun sN8 => C_Nam_init_127 N  N (0 : Int32) sN8))
set_option maxHeartbeats 4000000 in
set_option maxRecDepth 100000 in
theorem bC_Nam_init_117 (N : Nat)  {r : Int32} {u : CS} {DC DS : Nat} (C : CxC R_Nam p s m args meth c cC_Nam_init 2 none D dA z A) (hname : meth.name = "<init>") {Po : List va_W → Option Value → Prop} (hPo0 : ∀ b' : Nat → Nat, Po [(w_Nam dA o b' u).flatten] none)  (sN : CS) (dc ds kc ks : Nat) (hM : C_Nam_init N   sN = some ((r, u), (dc, ds))) (hdc : kc + dc ≤ DC) (hds : ks + ds ≤ DS) (b : Nat → Nat) (H : Heap) (locs : List Loc) (hW : WdC D A s (w_Nam dA o b sN) H locs) (ls : Array Slot) (hl : lv_has ls 2 [(0, .ref (o 16))]) : W p l e (rmC 7 212 DC DS) s m args below meth c H locs kc ks (MQ below (QC D A Po) args s DC DS A) (F0 m 117 ls []) := by
  have hx := C.1.1
  have hb := C.1.2.1
  have hown := C.1.2.2.2.2.1
  have hT := C.1.2.2.2.2.2.1
  unfold C_Nam_init at hM
  refine lv_aload_n (pc := 117) hx hb dC_Nam_init_117 rfl (lv_at hl 0 rfl) ?_
  refine x_getC (pc := 118) C hW 0 rfl (ci := 2) rfl i_Nam 11 (by decide) qc_234 rfl rfl dC_Nam_init_118 ?_
  refine lv_iconst (pc := 121) (v := 0) hx hb dC_Nam_init_121 (by decide) ?_
  obtain ⟨r1, u2, da3, ea4, db5, eb6, hr1, hM, hqda3, hpda3⟩ := ct_some hM
  refine x_callC (pc := 122) (n' := 20) C hW (kC_Row_add l D dA z (fun _ => o 24) (fun _ => b 24)  (0 : Int32) (rg sN 7) hr1) [15, 16, 0, 1, 2, 3, 4, 5, 6, 7, 8, 9, 10, 11, 12, 13, 14, 17, 18, 19] rfl (by decide +kernel) rfl (ci := 1) rfl (q0 := 15) rfl gC_Nam_48 ⟨rfl, by decide, by decide, by decide +kernel⟩ ⟨Nat.le_of_ble_eq_true rfl, Nat.le_of_ble_eq_true rfl⟩ ⟨show _ + da3 ≤ DC by omega, show _ + ea4 ≤ DS by omega⟩ (As := [.int (0 : Int32)]) (n := 1) rfl hl.1 rfl (Nat.le_of_ble_eq_true rfl) dC_Nam_init_122 (fun Wc' ov H locs hPo hWn => ?_)
  obtain ⟨b7, rfl, rfl⟩ := hPo
  have hW := hWn (w_Nam dA o (uN b 24 (b7 0)) (rs sN 7 u2)) rfl rfl
  generalize uN b 24 (b7 0) = b at hW
  obtain ⟨sN8, esN8, hM⟩ := bnd_some hM
  rw [← esN8] at hW
  refine lv_iconst (pc := 125) (v := 0) hx hb dC_Nam_init_125 (by decide) ?_
  refine lv_istore_n (pc := 126) (lv' := [(1, .int (0 : Int32)), (0, .ref (o 16))]) hx hb dC_Nam_init_126 rfl hl (by decide) rfl (fun ls hl => ?_)
  exact bC_Nam_init_127 N  C hname hPo0  N _ _ _ _ _ _ hM (by omega) (by omega) _ _ _ hW _ (lv_sub hl [1, 0] rfl)
end
set_option maxHeartbeats 4000000 in
set_option maxRecDepth 100000 in
theorem kC_Nam_init (l : Launch) (D : va_G) (dA : Nat → ClassId) (z : Nat → Nat) (N : Nat) {r : Int32} {u : CS} {dc ds : Nat} (hM : C_Nam_init N N0s = some ((r, u), (dc, ds))) (q : Nat) : KC l D dA z yC_Nam_init cC_Nam_init 2 none 7 212 (19 + dc) (1106 + ds) [[(q, .inr (2, [.null, .null, .null, .null, .null, .int 0, .int 0, .int 0, .null, .null, .null, .null, .null, .int 0, .int 0]))]] [.ref q] (fun Ws' ov => ∃ o b : Nat → Nat, o 16 = q ∧ Ws' = [(w_Nam dA o b u).flatten] ∧ ov = none) := by
  refine x_enterC (by decide +kernel) (Nat.le_of_ble_eq_true rfl) (fun p e s m args below meth c A C hname hW ls hl => ?_)
  have hx := C.1.1
  have hb := C.1.2.1
  have hown := C.1.2.2.2.2.1
  have hT := C.1.2.2.2.2.2.1
  have hl : lv_has ls 2 [(0, .ref q)] := hl
  have h64_512 : Int32.toNatClampNeg 512 = 512 := by decide +kernel
  refine lv_aload_n (pc := 0) hx hb dC_Nam_init_0 rfl (lv_at hl 0 rfl) ?_
  refine x_objI (pc := 1) C qc_69 qc_44 qc_45 hl.1 dC_Nam_init_1 (Nat.le_of_ble_eq_true rfl) (Nat.le_of_ble_eq_true rfl) ?_
  refine lv_aload_n (pc := 4) hx hb dC_Nam_init_4 rfl (lv_at hl 0 rfl) ?_
  refine x_newC (pc := 5) (ci := 1) (vc := (R_Row, F_Row, 2)) (fs := [.int 0, .null]) (N := 2) C hW rfl rfl i_Row tok_Row qc_70 qc_47 qc_2 def_Row (by show _ + 1 ≤ 19 + dc; omega) (by show _ + 2 ≤ 1106 + ds; omega) dC_Nam_init_5 (fun a1 H hW => ?_)
  refine lv_dup (pc := 8) hx hb dC_Nam_init_8 rfl ?_
  refine x_callN (pc := 9) (n' := 2) (host := "LineAssembler") C hW (kC_Row_init l D dA z a1 ) [1, 0] rfl (by decide +kernel) rfl qc_50 ex_m1 qc_49 qc_2 rfl ⟨by decide, by decide, by decide +kernel⟩ ⟨Nat.le_of_ble_eq_true rfl, Nat.le_of_ble_eq_true rfl⟩ ⟨by show _ + 1 ≤ 19 + dc; omega, by show _ + 64 ≤ 1106 + ds; omega⟩ (As := []) (n := 0) rfl hl.1 rfl (Nat.le_of_ble_eq_true rfl) dC_Nam_init_9 (fun Wc' ov H locs hPo hWn => ?_)
  obtain ⟨a2, rfl, rfl⟩ := hPo
  have hW := hWn [[(q, .inr (2, [.null, .null, .null, .null, .null, .int 0, .int 0, .int 0, .null, .null, .null, .null, .null, .int 0, .int 0]))], [(a1, .inr (1, [.int 0, .ref a2])), (a2, .inl (dA 2, 64, .inl (fun _ => 0)))]] rfl rfl
  refine x_putF (pc := 12) (ty := .object "LineAssembler$Row") (v := .ref a1) (Ws' := [[(q, .inr (2, [.ref a1, .null, .null, .null, .null, .int 0, .int 0, .int 0, .null, .null, .null, .null, .null, .int 0, .int 0]))], [(a1, .inr (1, [.int 0, .ref a2])), (a2, .inl (dA 2, 64, .inl (fun _ => 0)))]]) C hW 0 rfl (ci := 2) rfl i_Nam tok_Nam n_Nam 0 (by decide) qc_215 rfl rfl hname rfl (by decide +kernel) rfl rfl (Nat.le_of_ble_eq_true rfl) rfl dC_Nam_init_12 (fun H locs hW => ?_)
  refine lv_aload_n (pc := 15) hx hb dC_Nam_init_15 rfl (lv_at hl 0 rfl) ?_
  refine x_newC (pc := 16) (ci := 1) (vc := (R_Row, F_Row, 2)) (fs := [.int 0, .null]) (N := 2) C hW rfl rfl i_Row tok_Row qc_70 qc_47 qc_2 def_Row (by show _ + 1 ≤ 19 + dc; omega) (by show _ + 2 ≤ 1106 + ds; omega) dC_Nam_init_16 (fun a3 H hW => ?_)
  refine lv_dup (pc := 19) hx hb dC_Nam_init_19 rfl ?_
  refine x_callN (pc := 20) (n' := 3) (host := "LineAssembler") C hW (kC_Row_init l D dA z a3 ) [2, 0, 1] rfl (by decide +kernel) rfl qc_50 ex_m1 qc_49 qc_2 rfl ⟨by decide, by decide, by decide +kernel⟩ ⟨Nat.le_of_ble_eq_true rfl, Nat.le_of_ble_eq_true rfl⟩ ⟨by show _ + 1 ≤ 19 + dc; omega, by show _ + 64 ≤ 1106 + ds; omega⟩ (As := []) (n := 0) rfl hl.1 rfl (Nat.le_of_ble_eq_true rfl) dC_Nam_init_20 (fun Wc' ov H locs hPo hWn => ?_)
  obtain ⟨a4, rfl, rfl⟩ := hPo
  have hW := hWn [[(q, .inr (2, [.ref a1, .null, .null, .null, .null, .int 0, .int 0, .int 0, .null, .null, .null, .null, .null, .int 0, .int 0]))], [(a1, .inr (1, [.int 0, .ref a2])), (a2, .inl (dA 2, 64, .inl (fun _ => 0)))], [(a3, .inr (1, [.int 0, .ref a4])), (a4, .inl (dA 2, 64, .inl (fun _ => 0)))]] rfl rfl
  refine x_putF (pc := 23) (ty := .object "LineAssembler$Row") (v := .ref a3) (Ws' := [[(q, .inr (2, [.ref a1, .ref a3, .null, .null, .null, .int 0, .int 0, .int 0, .null, .null, .null, .null, .null, .int 0, .int 0]))], [(a1, .inr (1, [.int 0, .ref a2])), (a2, .inl (dA 2, 64, .inl (fun _ => 0)))], [(a3, .inr (1, [.int 0, .ref a4])), (a4, .inl (dA 2, 64, .inl (fun _ => 0)))]]) C hW 0 rfl (ci := 2) rfl i_Nam tok_Nam n_Nam 1 (by decide) qc_217 rfl rfl hname rfl (by decide +kernel) rfl rfl (Nat.le_of_ble_eq_true rfl) rfl dC_Nam_init_23 (fun H locs hW => ?_)
  refine lv_aload_n (pc := 26) hx hb dC_Nam_init_26 rfl (lv_at hl 0 rfl) ?_
  refine x_newC (pc := 27) (ci := 1) (vc := (R_Row, F_Row, 2)) (fs := [.int 0, .null]) (N := 2) C hW rfl rfl i_Row tok_Row qc_70 qc_47 qc_2 def_Row (by show _ + 1 ≤ 19 + dc; omega) (by show _ + 2 ≤ 1106 + ds; omega) dC_Nam_init_27 (fun a5 H hW => ?_)
  refine lv_dup (pc := 30) hx hb dC_Nam_init_30 rfl ?_
  refine x_callN (pc := 31) (n' := 4) (host := "LineAssembler") C hW (kC_Row_init l D dA z a5 ) [3, 0, 1, 2] rfl (by decide +kernel) rfl qc_50 ex_m1 qc_49 qc_2 rfl ⟨by decide, by decide, by decide +kernel⟩ ⟨Nat.le_of_ble_eq_true rfl, Nat.le_of_ble_eq_true rfl⟩ ⟨by show _ + 1 ≤ 19 + dc; omega, by show _ + 64 ≤ 1106 + ds; omega⟩ (As := []) (n := 0) rfl hl.1 rfl (Nat.le_of_ble_eq_true rfl) dC_Nam_init_31 (fun Wc' ov H locs hPo hWn => ?_)
  obtain ⟨a6, rfl, rfl⟩ := hPo
  have hW := hWn [[(q, .inr (2, [.ref a1, .ref a3, .null, .null, .null, .int 0, .int 0, .int 0, .null, .null, .null, .null, .null, .int 0, .int 0]))], [(a1, .inr (1, [.int 0, .ref a2])), (a2, .inl (dA 2, 64, .inl (fun _ => 0)))], [(a3, .inr (1, [.int 0, .ref a4])), (a4, .inl (dA 2, 64, .inl (fun _ => 0)))], [(a5, .inr (1, [.int 0, .ref a6])), (a6, .inl (dA 2, 64, .inl (fun _ => 0)))]] rfl rfl
  refine x_putF (pc := 34) (ty := .object "LineAssembler$Row") (v := .ref a5) (Ws' := [[(q, .inr (2, [.ref a1, .ref a3, .ref a5, .null, .null, .int 0, .int 0, .int 0, .null, .null, .null, .null, .null, .int 0, .int 0]))], [(a1, .inr (1, [.int 0, .ref a2])), (a2, .inl (dA 2, 64, .inl (fun _ => 0)))], [(a3, .inr (1, [.int 0, .ref a4])), (a4, .inl (dA 2, 64, .inl (fun _ => 0)))], [(a5, .inr (1, [.int 0, .ref a6])), (a6, .inl (dA 2, 64, .inl (fun _ => 0)))]]) C hW 0 rfl (ci := 2) rfl i_Nam tok_Nam n_Nam 2 (by decide) qc_219 rfl rfl hname rfl (by decide +kernel) rfl rfl (Nat.le_of_ble_eq_true rfl) rfl dC_Nam_init_34 (fun H locs hW => ?_)
  refine lv_aload_n (pc := 37) hx hb dC_Nam_init_37 rfl (lv_at hl 0 rfl) ?_
  refine x_newC (pc := 38) (ci := 1) (vc := (R_Row, F_Row, 2)) (fs := [.int 0, .null]) (N := 2) C hW rfl rfl i_Row tok_Row qc_70 qc_47 qc_2 def_Row (by show _ + 1 ≤ 19 + dc; omega) (by show _ + 2 ≤ 1106 + ds; omega) dC_Nam_init_38 (fun a7 H hW => ?_)
  refine lv_dup (pc := 41) hx hb dC_Nam_init_41 rfl ?_
  refine x_callN (pc := 42) (n' := 5) (host := "LineAssembler") C hW (kC_Row_init l D dA z a7 ) [4, 0, 1, 2, 3] rfl (by decide +kernel) rfl qc_50 ex_m1 qc_49 qc_2 rfl ⟨by decide, by decide, by decide +kernel⟩ ⟨Nat.le_of_ble_eq_true rfl, Nat.le_of_ble_eq_true rfl⟩ ⟨by show _ + 1 ≤ 19 + dc; omega, by show _ + 64 ≤ 1106 + ds; omega⟩ (As := []) (n := 0) rfl hl.1 rfl (Nat.le_of_ble_eq_true rfl) dC_Nam_init_42 (fun Wc' ov H locs hPo hWn => ?_)
  obtain ⟨a8, rfl, rfl⟩ := hPo
  have hW := hWn [[(q, .inr (2, [.ref a1, .ref a3, .ref a5, .null, .null, .int 0, .int 0, .int 0, .null, .null, .null, .null, .null, .int 0, .int 0]))], [(a1, .inr (1, [.int 0, .ref a2])), (a2, .inl (dA 2, 64, .inl (fun _ => 0)))], [(a3, .inr (1, [.int 0, .ref a4])), (a4, .inl (dA 2, 64, .inl (fun _ => 0)))], [(a5, .inr (1, [.int 0, .ref a6])), (a6, .inl (dA 2, 64, .inl (fun _ => 0)))], [(a7, .inr (1, [.int 0, .ref a8])), (a8, .inl (dA 2, 64, .inl (fun _ => 0)))]] rfl rfl
  refine x_putF (pc := 45) (ty := .object "LineAssembler$Row") (v := .ref a7) (Ws' := [[(q, .inr (2, [.ref a1, .ref a3, .ref a5, .ref a7, .null, .int 0, .int 0, .int 0, .null, .null, .null, .null, .null, .int 0, .int 0]))], [(a1, .inr (1, [.int 0, .ref a2])), (a2, .inl (dA 2, 64, .inl (fun _ => 0)))], [(a3, .inr (1, [.int 0, .ref a4])), (a4, .inl (dA 2, 64, .inl (fun _ => 0)))], [(a5, .inr (1, [.int 0, .ref a6])), (a6, .inl (dA 2, 64, .inl (fun _ => 0)))], [(a7, .inr (1, [.int 0, .ref a8])), (a8, .inl (dA 2, 64, .inl (fun _ => 0)))]]) C hW 0 rfl (ci := 2) rfl i_Nam tok_Nam n_Nam 3 (by decide) qc_221 rfl rfl hname rfl (by decide +kernel) rfl rfl (Nat.le_of_ble_eq_true rfl) rfl dC_Nam_init_45 (fun H locs hW => ?_)
  refine lv_aload_n (pc := 48) hx hb dC_Nam_init_48 rfl (lv_at hl 0 rfl) ?_
  refine x_newC (pc := 49) (ci := 1) (vc := (R_Row, F_Row, 2)) (fs := [.int 0, .null]) (N := 2) C hW rfl rfl i_Row tok_Row qc_70 qc_47 qc_2 def_Row (by show _ + 1 ≤ 19 + dc; omega) (by show _ + 2 ≤ 1106 + ds; omega) dC_Nam_init_49 (fun a9 H hW => ?_)
  refine lv_dup (pc := 52) hx hb dC_Nam_init_52 rfl ?_
  refine x_callN (pc := 53) (n' := 6) (host := "LineAssembler") C hW (kC_Row_init l D dA z a9 ) [5, 0, 1, 2, 3, 4] rfl (by decide +kernel) rfl qc_50 ex_m1 qc_49 qc_2 rfl ⟨by decide, by decide, by decide +kernel⟩ ⟨Nat.le_of_ble_eq_true rfl, Nat.le_of_ble_eq_true rfl⟩ ⟨by show _ + 1 ≤ 19 + dc; omega, by show _ + 64 ≤ 1106 + ds; omega⟩ (As := []) (n := 0) rfl hl.1 rfl (Nat.le_of_ble_eq_true rfl) dC_Nam_init_53 (fun Wc' ov H locs hPo hWn => ?_)
  obtain ⟨a10, rfl, rfl⟩ := hPo
  have hW := hWn [[(q, .inr (2, [.ref a1, .ref a3, .ref a5, .ref a7, .null, .int 0, .int 0, .int 0, .null, .null, .null, .null, .null, .int 0, .int 0]))], [(a1, .inr (1, [.int 0, .ref a2])), (a2, .inl (dA 2, 64, .inl (fun _ => 0)))], [(a3, .inr (1, [.int 0, .ref a4])), (a4, .inl (dA 2, 64, .inl (fun _ => 0)))], [(a5, .inr (1, [.int 0, .ref a6])), (a6, .inl (dA 2, 64, .inl (fun _ => 0)))], [(a7, .inr (1, [.int 0, .ref a8])), (a8, .inl (dA 2, 64, .inl (fun _ => 0)))], [(a9, .inr (1, [.int 0, .ref a10])), (a10, .inl (dA 2, 64, .inl (fun _ => 0)))]] rfl rfl
  refine x_putF (pc := 56) (ty := .object "LineAssembler$Row") (v := .ref a9) (Ws' := [[(q, .inr (2, [.ref a1, .ref a3, .ref a5, .ref a7, .ref a9, .int 0, .int 0, .int 0, .null, .null, .null, .null, .null, .int 0, .int 0]))], [(a1, .inr (1, [.int 0, .ref a2])), (a2, .inl (dA 2, 64, .inl (fun _ => 0)))], [(a3, .inr (1, [.int 0, .ref a4])), (a4, .inl (dA 2, 64, .inl (fun _ => 0)))], [(a5, .inr (1, [.int 0, .ref a6])), (a6, .inl (dA 2, 64, .inl (fun _ => 0)))], [(a7, .inr (1, [.int 0, .ref a8])), (a8, .inl (dA 2, 64, .inl (fun _ => 0)))], [(a9, .inr (1, [.int 0, .ref a10])), (a10, .inl (dA 2, 64, .inl (fun _ => 0)))]]) C hW 0 rfl (ci := 2) rfl i_Nam tok_Nam n_Nam 4 (by decide) qc_223 rfl rfl hname rfl (by decide +kernel) rfl rfl (Nat.le_of_ble_eq_true rfl) rfl dC_Nam_init_56 (fun H locs hW => ?_)
  refine lv_aload_n (pc := 59) hx hb dC_Nam_init_59 rfl (lv_at hl 0 rfl) ?_
  refine lv_sipush (pc := 60) (v := 512) hx hb dC_Nam_init_60 (by decide) ?_
  refine x_newI (pc := 63) (n := 512) C hW (by decide) (by decide) (by show _ + 1 ≤ 19 + dc; omega) (by show _ + 512 ≤ 1106 + ds; omega) qc_63 dC_Nam_init_63 (fun a11 H hW => ?_)
  have hW : WdC D A s [[(q, .inr (2, [.ref a1, .ref a3, .ref a5, .ref a7, .ref a9, .int 0, .int 0, .int 0, .null, .null, .null, .null, .null, .int 0, .int 0]))], [(a1, .inr (1, [.int 0, .ref a2])), (a2, .inl (dA 2, 64, .inl (fun _ => 0)))], [(a3, .inr (1, [.int 0, .ref a4])), (a4, .inl (dA 2, 64, .inl (fun _ => 0)))], [(a5, .inr (1, [.int 0, .ref a6])), (a6, .inl (dA 2, 64, .inl (fun _ => 0)))], [(a7, .inr (1, [.int 0, .ref a8])), (a8, .inl (dA 2, 64, .inl (fun _ => 0)))], [(a9, .inr (1, [.int 0, .ref a10])), (a10, .inl (dA 2, 64, .inl (fun _ => 0)))], [(a11, .inl (dA 2, 512, .inl (fun _ => 0)))]] H _ := hW
  refine x_putF (pc := 65) (ty := .array .int) (v := .ref a11) (Ws' := [[(q, .inr (2, [.ref a1, .ref a3, .ref a5, .ref a7, .ref a9, .int 0, .int 0, .int 0, .ref a11, .null, .null, .null, .null, .int 0, .int 0]))], [(a1, .inr (1, [.int 0, .ref a2])), (a2, .inl (dA 2, 64, .inl (fun _ => 0)))], [(a3, .inr (1, [.int 0, .ref a4])), (a4, .inl (dA 2, 64, .inl (fun _ => 0)))], [(a5, .inr (1, [.int 0, .ref a6])), (a6, .inl (dA 2, 64, .inl (fun _ => 0)))], [(a7, .inr (1, [.int 0, .ref a8])), (a8, .inl (dA 2, 64, .inl (fun _ => 0)))], [(a9, .inr (1, [.int 0, .ref a10])), (a10, .inl (dA 2, 64, .inl (fun _ => 0)))], [(a11, .inl (dA 2, 512, .inl (fun _ => 0)))]]) C hW 0 rfl (ci := 2) rfl i_Nam tok_Nam n_Nam 8 (by decide) qc_231 rfl rfl hname rfl (by decide +kernel) rfl rfl (Nat.le_of_ble_eq_true rfl) rfl dC_Nam_init_65 (fun H locs hW => ?_)
  refine lv_aload_n (pc := 68) hx hb dC_Nam_init_68 rfl (lv_at hl 0 rfl) ?_
  refine x_newC (pc := 69) (ci := 1) (vc := (R_Row, F_Row, 2)) (fs := [.int 0, .null]) (N := 2) C hW rfl rfl i_Row tok_Row qc_70 qc_47 qc_2 def_Row (by show _ + 1 ≤ 19 + dc; omega) (by show _ + 2 ≤ 1106 + ds; omega) dC_Nam_init_69 (fun a12 H hW => ?_)
  refine lv_dup (pc := 72) hx hb dC_Nam_init_72 rfl ?_
  refine x_callN (pc := 73) (n' := 8) (host := "LineAssembler") C hW (kC_Row_init l D dA z a12 ) [7, 0, 1, 2, 3, 4, 5, 6] rfl (by decide +kernel) rfl qc_50 ex_m1 qc_49 qc_2 rfl ⟨by decide, by decide, by decide +kernel⟩ ⟨Nat.le_of_ble_eq_true rfl, Nat.le_of_ble_eq_true rfl⟩ ⟨by show _ + 1 ≤ 19 + dc; omega, by show _ + 64 ≤ 1106 + ds; omega⟩ (As := []) (n := 0) rfl hl.1 rfl (Nat.le_of_ble_eq_true rfl) dC_Nam_init_73 (fun Wc' ov H locs hPo hWn => ?_)
  obtain ⟨a13, rfl, rfl⟩ := hPo
  have hW := hWn [[(q, .inr (2, [.ref a1, .ref a3, .ref a5, .ref a7, .ref a9, .int 0, .int 0, .int 0, .ref a11, .null, .null, .null, .null, .int 0, .int 0]))], [(a1, .inr (1, [.int 0, .ref a2])), (a2, .inl (dA 2, 64, .inl (fun _ => 0)))], [(a3, .inr (1, [.int 0, .ref a4])), (a4, .inl (dA 2, 64, .inl (fun _ => 0)))], [(a5, .inr (1, [.int 0, .ref a6])), (a6, .inl (dA 2, 64, .inl (fun _ => 0)))], [(a7, .inr (1, [.int 0, .ref a8])), (a8, .inl (dA 2, 64, .inl (fun _ => 0)))], [(a9, .inr (1, [.int 0, .ref a10])), (a10, .inl (dA 2, 64, .inl (fun _ => 0)))], [(a11, .inl (dA 2, 512, .inl (fun _ => 0)))], [(a12, .inr (1, [.int 0, .ref a13])), (a13, .inl (dA 2, 64, .inl (fun _ => 0)))]] rfl rfl
  refine x_putF (pc := 76) (ty := .object "LineAssembler$Row") (v := .ref a12) (Ws' := [[(q, .inr (2, [.ref a1, .ref a3, .ref a5, .ref a7, .ref a9, .int 0, .int 0, .int 0, .ref a11, .ref a12, .null, .null, .null, .int 0, .int 0]))], [(a1, .inr (1, [.int 0, .ref a2])), (a2, .inl (dA 2, 64, .inl (fun _ => 0)))], [(a3, .inr (1, [.int 0, .ref a4])), (a4, .inl (dA 2, 64, .inl (fun _ => 0)))], [(a5, .inr (1, [.int 0, .ref a6])), (a6, .inl (dA 2, 64, .inl (fun _ => 0)))], [(a7, .inr (1, [.int 0, .ref a8])), (a8, .inl (dA 2, 64, .inl (fun _ => 0)))], [(a9, .inr (1, [.int 0, .ref a10])), (a10, .inl (dA 2, 64, .inl (fun _ => 0)))], [(a11, .inl (dA 2, 512, .inl (fun _ => 0)))], [(a12, .inr (1, [.int 0, .ref a13])), (a13, .inl (dA 2, 64, .inl (fun _ => 0)))]]) C hW 0 rfl (ci := 2) rfl i_Nam tok_Nam n_Nam 9 (by decide) qc_232 rfl rfl hname rfl (by decide +kernel) rfl rfl (Nat.le_of_ble_eq_true rfl) rfl dC_Nam_init_76 (fun H locs hW => ?_)
  refine lv_aload_n (pc := 79) hx hb dC_Nam_init_79 rfl (lv_at hl 0 rfl) ?_
  refine x_newC (pc := 80) (ci := 1) (vc := (R_Row, F_Row, 2)) (fs := [.int 0, .null]) (N := 2) C hW rfl rfl i_Row tok_Row qc_70 qc_47 qc_2 def_Row (by show _ + 1 ≤ 19 + dc; omega) (by show _ + 2 ≤ 1106 + ds; omega) dC_Nam_init_80 (fun a14 H hW => ?_)
  refine lv_dup (pc := 83) hx hb dC_Nam_init_83 rfl ?_
  refine x_callN (pc := 84) (n' := 9) (host := "LineAssembler") C hW (kC_Row_init l D dA z a14 ) [8, 0, 1, 2, 3, 4, 5, 6, 7] rfl (by decide +kernel) rfl qc_50 ex_m1 qc_49 qc_2 rfl ⟨by decide, by decide, by decide +kernel⟩ ⟨Nat.le_of_ble_eq_true rfl, Nat.le_of_ble_eq_true rfl⟩ ⟨by show _ + 1 ≤ 19 + dc; omega, by show _ + 64 ≤ 1106 + ds; omega⟩ (As := []) (n := 0) rfl hl.1 rfl (Nat.le_of_ble_eq_true rfl) dC_Nam_init_84 (fun Wc' ov H locs hPo hWn => ?_)
  obtain ⟨a15, rfl, rfl⟩ := hPo
  have hW := hWn [[(q, .inr (2, [.ref a1, .ref a3, .ref a5, .ref a7, .ref a9, .int 0, .int 0, .int 0, .ref a11, .ref a12, .null, .null, .null, .int 0, .int 0]))], [(a1, .inr (1, [.int 0, .ref a2])), (a2, .inl (dA 2, 64, .inl (fun _ => 0)))], [(a3, .inr (1, [.int 0, .ref a4])), (a4, .inl (dA 2, 64, .inl (fun _ => 0)))], [(a5, .inr (1, [.int 0, .ref a6])), (a6, .inl (dA 2, 64, .inl (fun _ => 0)))], [(a7, .inr (1, [.int 0, .ref a8])), (a8, .inl (dA 2, 64, .inl (fun _ => 0)))], [(a9, .inr (1, [.int 0, .ref a10])), (a10, .inl (dA 2, 64, .inl (fun _ => 0)))], [(a11, .inl (dA 2, 512, .inl (fun _ => 0)))], [(a12, .inr (1, [.int 0, .ref a13])), (a13, .inl (dA 2, 64, .inl (fun _ => 0)))], [(a14, .inr (1, [.int 0, .ref a15])), (a15, .inl (dA 2, 64, .inl (fun _ => 0)))]] rfl rfl
  refine x_putF (pc := 87) (ty := .object "LineAssembler$Row") (v := .ref a14) (Ws' := [[(q, .inr (2, [.ref a1, .ref a3, .ref a5, .ref a7, .ref a9, .int 0, .int 0, .int 0, .ref a11, .ref a12, .ref a14, .null, .null, .int 0, .int 0]))], [(a1, .inr (1, [.int 0, .ref a2])), (a2, .inl (dA 2, 64, .inl (fun _ => 0)))], [(a3, .inr (1, [.int 0, .ref a4])), (a4, .inl (dA 2, 64, .inl (fun _ => 0)))], [(a5, .inr (1, [.int 0, .ref a6])), (a6, .inl (dA 2, 64, .inl (fun _ => 0)))], [(a7, .inr (1, [.int 0, .ref a8])), (a8, .inl (dA 2, 64, .inl (fun _ => 0)))], [(a9, .inr (1, [.int 0, .ref a10])), (a10, .inl (dA 2, 64, .inl (fun _ => 0)))], [(a11, .inl (dA 2, 512, .inl (fun _ => 0)))], [(a12, .inr (1, [.int 0, .ref a13])), (a13, .inl (dA 2, 64, .inl (fun _ => 0)))], [(a14, .inr (1, [.int 0, .ref a15])), (a15, .inl (dA 2, 64, .inl (fun _ => 0)))]]) C hW 0 rfl (ci := 2) rfl i_Nam tok_Nam n_Nam 10 (by decide) qc_233 rfl rfl hname rfl (by decide +kernel) rfl rfl (Nat.le_of_ble_eq_true rfl) rfl dC_Nam_init_87 (fun H locs hW => ?_)
  refine lv_aload_n (pc := 90) hx hb dC_Nam_init_90 rfl (lv_at hl 0 rfl) ?_
  refine x_newC (pc := 91) (ci := 1) (vc := (R_Row, F_Row, 2)) (fs := [.int 0, .null]) (N := 2) C hW rfl rfl i_Row tok_Row qc_70 qc_47 qc_2 def_Row (by show _ + 1 ≤ 19 + dc; omega) (by show _ + 2 ≤ 1106 + ds; omega) dC_Nam_init_91 (fun a16 H hW => ?_)
  refine lv_dup (pc := 94) hx hb dC_Nam_init_94 rfl ?_
  refine x_callN (pc := 95) (n' := 10) (host := "LineAssembler") C hW (kC_Row_init l D dA z a16 ) [9, 0, 1, 2, 3, 4, 5, 6, 7, 8] rfl (by decide +kernel) rfl qc_50 ex_m1 qc_49 qc_2 rfl ⟨by decide, by decide, by decide +kernel⟩ ⟨Nat.le_of_ble_eq_true rfl, Nat.le_of_ble_eq_true rfl⟩ ⟨by show _ + 1 ≤ 19 + dc; omega, by show _ + 64 ≤ 1106 + ds; omega⟩ (As := []) (n := 0) rfl hl.1 rfl (Nat.le_of_ble_eq_true rfl) dC_Nam_init_95 (fun Wc' ov H locs hPo hWn => ?_)
  obtain ⟨a17, rfl, rfl⟩ := hPo
  have hW := hWn [[(q, .inr (2, [.ref a1, .ref a3, .ref a5, .ref a7, .ref a9, .int 0, .int 0, .int 0, .ref a11, .ref a12, .ref a14, .null, .null, .int 0, .int 0]))], [(a1, .inr (1, [.int 0, .ref a2])), (a2, .inl (dA 2, 64, .inl (fun _ => 0)))], [(a3, .inr (1, [.int 0, .ref a4])), (a4, .inl (dA 2, 64, .inl (fun _ => 0)))], [(a5, .inr (1, [.int 0, .ref a6])), (a6, .inl (dA 2, 64, .inl (fun _ => 0)))], [(a7, .inr (1, [.int 0, .ref a8])), (a8, .inl (dA 2, 64, .inl (fun _ => 0)))], [(a9, .inr (1, [.int 0, .ref a10])), (a10, .inl (dA 2, 64, .inl (fun _ => 0)))], [(a11, .inl (dA 2, 512, .inl (fun _ => 0)))], [(a12, .inr (1, [.int 0, .ref a13])), (a13, .inl (dA 2, 64, .inl (fun _ => 0)))], [(a14, .inr (1, [.int 0, .ref a15])), (a15, .inl (dA 2, 64, .inl (fun _ => 0)))], [(a16, .inr (1, [.int 0, .ref a17])), (a17, .inl (dA 2, 64, .inl (fun _ => 0)))]] rfl rfl
  refine x_putF (pc := 98) (ty := .object "LineAssembler$Row") (v := .ref a16) (Ws' := [[(q, .inr (2, [.ref a1, .ref a3, .ref a5, .ref a7, .ref a9, .int 0, .int 0, .int 0, .ref a11, .ref a12, .ref a14, .ref a16, .null, .int 0, .int 0]))], [(a1, .inr (1, [.int 0, .ref a2])), (a2, .inl (dA 2, 64, .inl (fun _ => 0)))], [(a3, .inr (1, [.int 0, .ref a4])), (a4, .inl (dA 2, 64, .inl (fun _ => 0)))], [(a5, .inr (1, [.int 0, .ref a6])), (a6, .inl (dA 2, 64, .inl (fun _ => 0)))], [(a7, .inr (1, [.int 0, .ref a8])), (a8, .inl (dA 2, 64, .inl (fun _ => 0)))], [(a9, .inr (1, [.int 0, .ref a10])), (a10, .inl (dA 2, 64, .inl (fun _ => 0)))], [(a11, .inl (dA 2, 512, .inl (fun _ => 0)))], [(a12, .inr (1, [.int 0, .ref a13])), (a13, .inl (dA 2, 64, .inl (fun _ => 0)))], [(a14, .inr (1, [.int 0, .ref a15])), (a15, .inl (dA 2, 64, .inl (fun _ => 0)))], [(a16, .inr (1, [.int 0, .ref a17])), (a17, .inl (dA 2, 64, .inl (fun _ => 0)))]]) C hW 0 rfl (ci := 2) rfl i_Nam tok_Nam n_Nam 11 (by decide) qc_234 rfl rfl hname rfl (by decide +kernel) rfl rfl (Nat.le_of_ble_eq_true rfl) rfl dC_Nam_init_98 (fun H locs hW => ?_)
  refine lv_aload_n (pc := 101) hx hb dC_Nam_init_101 rfl (lv_at hl 0 rfl) ?_
  refine x_newC (pc := 102) (ci := 1) (vc := (R_Row, F_Row, 2)) (fs := [.int 0, .null]) (N := 2) C hW rfl rfl i_Row tok_Row qc_70 qc_47 qc_2 def_Row (by show _ + 1 ≤ 19 + dc; omega) (by show _ + 2 ≤ 1106 + ds; omega) dC_Nam_init_102 (fun a18 H hW => ?_)
  refine lv_dup (pc := 105) hx hb dC_Nam_init_105 rfl ?_
  refine x_callN (pc := 106) (n' := 11) (host := "LineAssembler") C hW (kC_Row_init l D dA z a18 ) [10, 0, 1, 2, 3, 4, 5, 6, 7, 8, 9] rfl (by decide +kernel) rfl qc_50 ex_m1 qc_49 qc_2 rfl ⟨by decide, by decide, by decide +kernel⟩ ⟨Nat.le_of_ble_eq_true rfl, Nat.le_of_ble_eq_true rfl⟩ ⟨by show _ + 1 ≤ 19 + dc; omega, by show _ + 64 ≤ 1106 + ds; omega⟩ (As := []) (n := 0) rfl hl.1 rfl (Nat.le_of_ble_eq_true rfl) dC_Nam_init_106 (fun Wc' ov H locs hPo hWn => ?_)
  obtain ⟨a19, rfl, rfl⟩ := hPo
  have hW := hWn [[(q, .inr (2, [.ref a1, .ref a3, .ref a5, .ref a7, .ref a9, .int 0, .int 0, .int 0, .ref a11, .ref a12, .ref a14, .ref a16, .null, .int 0, .int 0]))], [(a1, .inr (1, [.int 0, .ref a2])), (a2, .inl (dA 2, 64, .inl (fun _ => 0)))], [(a3, .inr (1, [.int 0, .ref a4])), (a4, .inl (dA 2, 64, .inl (fun _ => 0)))], [(a5, .inr (1, [.int 0, .ref a6])), (a6, .inl (dA 2, 64, .inl (fun _ => 0)))], [(a7, .inr (1, [.int 0, .ref a8])), (a8, .inl (dA 2, 64, .inl (fun _ => 0)))], [(a9, .inr (1, [.int 0, .ref a10])), (a10, .inl (dA 2, 64, .inl (fun _ => 0)))], [(a11, .inl (dA 2, 512, .inl (fun _ => 0)))], [(a12, .inr (1, [.int 0, .ref a13])), (a13, .inl (dA 2, 64, .inl (fun _ => 0)))], [(a14, .inr (1, [.int 0, .ref a15])), (a15, .inl (dA 2, 64, .inl (fun _ => 0)))], [(a16, .inr (1, [.int 0, .ref a17])), (a17, .inl (dA 2, 64, .inl (fun _ => 0)))], [(a18, .inr (1, [.int 0, .ref a19])), (a19, .inl (dA 2, 64, .inl (fun _ => 0)))]] rfl rfl
  refine x_putF (pc := 109) (ty := .object "LineAssembler$Row") (v := .ref a18) (Ws' := [[(q, .inr (2, [.ref a1, .ref a3, .ref a5, .ref a7, .ref a9, .int 0, .int 0, .int 0, .ref a11, .ref a12, .ref a14, .ref a16, .ref a18, .int 0, .int 0]))], [(a1, .inr (1, [.int 0, .ref a2])), (a2, .inl (dA 2, 64, .inl (fun _ => 0)))], [(a3, .inr (1, [.int 0, .ref a4])), (a4, .inl (dA 2, 64, .inl (fun _ => 0)))], [(a5, .inr (1, [.int 0, .ref a6])), (a6, .inl (dA 2, 64, .inl (fun _ => 0)))], [(a7, .inr (1, [.int 0, .ref a8])), (a8, .inl (dA 2, 64, .inl (fun _ => 0)))], [(a9, .inr (1, [.int 0, .ref a10])), (a10, .inl (dA 2, 64, .inl (fun _ => 0)))], [(a11, .inl (dA 2, 512, .inl (fun _ => 0)))], [(a12, .inr (1, [.int 0, .ref a13])), (a13, .inl (dA 2, 64, .inl (fun _ => 0)))], [(a14, .inr (1, [.int 0, .ref a15])), (a15, .inl (dA 2, 64, .inl (fun _ => 0)))], [(a16, .inr (1, [.int 0, .ref a17])), (a17, .inl (dA 2, 64, .inl (fun _ => 0)))], [(a18, .inr (1, [.int 0, .ref a19])), (a19, .inl (dA 2, 64, .inl (fun _ => 0)))]]) C hW 0 rfl (ci := 2) rfl i_Nam tok_Nam n_Nam 12 (by decide) qc_235 rfl rfl hname rfl (by decide +kernel) rfl rfl (Nat.le_of_ble_eq_true rfl) rfl dC_Nam_init_109 (fun H locs hW => ?_)
  refine lv_aload_n (pc := 112) hx hb dC_Nam_init_112 rfl (lv_at hl 0 rfl) ?_
  refine lv_iconst (pc := 113) (v := 0) hx hb dC_Nam_init_113 (by decide) ?_
  refine x_putC (pc := 114) (ty := .int) (v := .int 0) (Ws' := [[(q, .inr (2, [.ref a1, .ref a3, .ref a5, .ref a7, .ref a9, .int 0, .int 0, .int 0, .ref a11, .ref a12, .ref a14, .ref a16, .ref a18, .int 0, .int 0]))], [(a1, .inr (1, [.int 0, .ref a2])), (a2, .inl (dA 2, 64, .inl (fun _ => 0)))], [(a3, .inr (1, [.int 0, .ref a4])), (a4, .inl (dA 2, 64, .inl (fun _ => 0)))], [(a5, .inr (1, [.int 0, .ref a6])), (a6, .inl (dA 2, 64, .inl (fun _ => 0)))], [(a7, .inr (1, [.int 0, .ref a8])), (a8, .inl (dA 2, 64, .inl (fun _ => 0)))], [(a9, .inr (1, [.int 0, .ref a10])), (a10, .inl (dA 2, 64, .inl (fun _ => 0)))], [(a11, .inl (dA 2, 512, .inl (fun _ => 0)))], [(a12, .inr (1, [.int 0, .ref a13])), (a13, .inl (dA 2, 64, .inl (fun _ => 0)))], [(a14, .inr (1, [.int 0, .ref a15])), (a15, .inl (dA 2, 64, .inl (fun _ => 0)))], [(a16, .inr (1, [.int 0, .ref a17])), (a17, .inl (dA 2, 64, .inl (fun _ => 0)))], [(a18, .inr (1, [.int 0, .ref a19])), (a19, .inl (dA 2, 64, .inl (fun _ => 0)))]]) C hW 0 rfl (ci := 2) rfl i_Nam tok_Nam n_Nam 14 (by decide) qc_237 rfl rfl (by decide +kernel) rfl rfl (Nat.le_of_ble_eq_true rfl) rfl dC_Nam_init_114 (fun H locs hW => ?_)
  have hW := hW.eqf (Ws' := [[(q, .inr (2, [.ref a1, .ref a3, .ref a5, .ref a7, .ref a9, .int 0, .int 0, .int 0, .ref a11, .ref a12, .ref a14, .ref a16, .ref a18, .int 0, .int 0]))], [(a1, .inr (1, [.int 0, .ref a2]))], [(a2, .inl (dA 2, 64, .inl (fun _ => 0)))], [(a3, .inr (1, [.int 0, .ref a4]))], [(a4, .inl (dA 2, 64, .inl (fun _ => 0)))], [(a5, .inr (1, [.int 0, .ref a6]))], [(a6, .inl (dA 2, 64, .inl (fun _ => 0)))], [(a7, .inr (1, [.int 0, .ref a8]))], [(a8, .inl (dA 2, 64, .inl (fun _ => 0)))], [(a9, .inr (1, [.int 0, .ref a10]))], [(a10, .inl (dA 2, 64, .inl (fun _ => 0)))], [(a11, .inl (dA 2, 512, .inl (fun _ => 0)))], [(a12, .inr (1, [.int 0, .ref a13]))], [(a13, .inl (dA 2, 64, .inl (fun _ => 0)))], [(a14, .inr (1, [.int 0, .ref a15]))], [(a15, .inl (dA 2, 64, .inl (fun _ => 0)))], [(a16, .inr (1, [.int 0, .ref a17]))], [(a17, .inl (dA 2, 64, .inl (fun _ => 0)))], [(a18, .inr (1, [.int 0, .ref a19]))], [(a19, .inl (dA 2, 64, .inl (fun _ => 0)))]]) rfl
  have hW := hW.reord (Ws' := w_Nam dA (fun k => if k = 16 then q else if k = 17 then a1 else if k = 18 then a3 else if k = 19 then a5 else if k = 20 then a7 else if k = 21 then a9 else if k = 22 then a12 else if k = 23 then a14 else if k = 24 then a16 else if k = 25 then a18 else 0) (fun k => if k = 17 then a2 else if k = 18 then a4 else if k = 19 then a6 else if k = 20 then a8 else if k = 21 then a10 else if k = 22 then a13 else if k = 23 then a15 else if k = 24 then a17 else if k = 25 then a19 else if k = 26 then a11 else 0) N0s) [0, 1, 2, 3, 4, 5, 6, 7, 8, 9, 10, 12, 13, 14, 15, 16, 17, 18, 19, 11] 20 rfl (by decide +kernel) rfl
  exact bC_Nam_init_117 N (o := (fun k => if k = 16 then q else if k = 17 then a1 else if k = 18 then a3 else if k = 19 then a5 else if k = 20 then a7 else if k = 21 then a9 else if k = 22 then a12 else if k = 23 then a14 else if k = 24 then a16 else if k = 25 then a18 else 0)) C hname (fun b' => ⟨_, b', rfl, rfl, rfl⟩) _ dc ds _ _ hM (by omega) (by omega) _ _ _ hW _ hl
