theorem qc_15 : (Jvm.Cond.initialized "java/util/AbstractCollection") ∈ lw_gd := uc_0 (List.mem_of_getElem? (i := 15) (by decide +kernel)) (by decide +kernel)
theorem qc_16 : (Jvm.Cond.initialized "java/util/AbstractList") ∈ lw_gd := uc_0 (List.mem_of_getElem? (i := 16) (by decide +kernel)) (by decide +kernel)
theorem qc_47 : (Jvm.Cond.instantiable "LineAssembler$Row" (2 : Nat)) ∈ lw_gd := uc_0 (List.mem_of_getElem? (i := 47) (by decide +kernel)) (by decide +kernel)
theorem qc_49 : (Jvm.Cond.instanceMethod ({ cls := "LineAssembler$Row", name := "<init>", desc := "()V" } : Jvm.MethodName)) ∈ lw_gd := uc_0 (List.mem_of_getElem? (i := 49) (by decide +kernel)) (by decide +kernel)
theorem qc_50 : (Jvm.Cond.code ({ cls := "LineAssembler$Row", name := "<init>", desc := "()V" } : Jvm.MethodName) prog_11_method_1_code (1 : Nat) (Option.none : Option Jvm.ClassFile.FieldType)) ∈ lw_gd := uc_0 (List.mem_of_getElem? (i := 50) (by decide +kernel)) (by decide +kernel)
theorem qc_51 : (Jvm.Cond.methodLink "LineAssembler$Row" (1 : Nat) ({ cls := "java/lang/Object", name := "<init>", desc := "()V" } : Jvm.MethodName)) ∈ lw_gd := uc_0 (List.mem_of_getElem? (i := 51) (by decide +kernel)) (by decide +kernel)
theorem qc_275 : (Jvm.Cond.methodLink "LineAssembler$Tokens" (3 : Nat) ({ cls := "java/lang/Object", name := "<init>", desc := "()V" } : Jvm.MethodName)) ∈ lw_gd := uc_1 (List.mem_of_getElem? (i := 35) (by decide +kernel)) (by decide +kernel)
theorem qc_301 : (Jvm.Cond.methodLink "LineAssembler$Program" (3 : Nat) ({ cls := "java/lang/Object", name := "<init>", desc := "()V" } : Jvm.MethodName)) ∈ lw_gd := uc_1 (List.mem_of_getElem? (i := 61) (by decide +kernel)) (by decide +kernel)
theorem qc_302 : (Jvm.Cond.classLink "LineAssembler$Program" (9 : Nat) "LineAssembler$Row") ∈ lw_gd := uc_1 (List.mem_of_getElem? (i := 62) (by decide +kernel)) (by decide +kernel)
theorem qc_304 : (Jvm.Cond.classLink "LineAssembler$Program" (44 : Nat) "java/util/ArrayList") ∈ lw_gd := uc_1 (List.mem_of_getElem? (i := 64) (by decide +kernel)) (by decide +kernel)
theorem qc_305 : (Jvm.Cond.instantiable "java/util/ArrayList" (3 : Nat)) ∈ lw_gd := uc_1 (List.mem_of_getElem? (i := 65) (by decide +kernel)) (by decide +kernel)
theorem qc_306 : (Jvm.Cond.methodLink "LineAssembler$Program" (46 : Nat) ({ cls := "java/util/ArrayList", name := "<init>", desc := "()V" } : Jvm.MethodName)) ∈ lw_gd := uc_1 (List.mem_of_getElem? (i := 66) (by decide +kernel)) (by decide +kernel)
theorem qc_307 : (Jvm.Cond.instanceMethod ({ cls := "java/util/ArrayList", name := "<init>", desc := "()V" } : Jvm.MethodName)) ∈ lw_gd := uc_1 (List.mem_of_getElem? (i := 67) (by decide +kernel)) (by decide +kernel)
theorem qc_308 : (Jvm.Cond.code ({ cls := "java/util/ArrayList", name := "<init>", desc := "()V" } : Jvm.MethodName) prog_37_method_2_code (1 : Nat) (Option.none : Option Jvm.ClassFile.FieldType)) ∈ lw_gd := uc_1 (List.mem_of_getElem? (i := 68) (by decide +kernel)) (by decide +kernel)
theorem qc_309 : (Jvm.Cond.methodLink "java/util/ArrayList" (1 : Nat) ({ cls := "java/util/AbstractList", name := "<init>", desc := "()V" } : Jvm.MethodName)) ∈ lw_gd := uc_1 (List.mem_of_getElem? (i := 69) (by decide +kernel)) (by decide +kernel)
theorem qc_310 : (Jvm.Cond.instanceMethod ({ cls := "java/util/AbstractList", name := "<init>", desc := "()V" } : Jvm.MethodName)) ∈ lw_gd := uc_1 (List.mem_of_getElem? (i := 70) (by decide +kernel)) (by decide +kernel)
theorem qc_311 : (Jvm.Cond.code ({ cls := "java/util/AbstractList", name := "<init>", desc := "()V" } : Jvm.MethodName) prog_36_method_1_code (1 : Nat) (Option.none : Option Jvm.ClassFile.FieldType)) ∈ lw_gd := uc_1 (List.mem_of_getElem? (i := 71) (by decide +kernel)) (by decide +kernel)
theorem qc_312 : (Jvm.Cond.methodLink "java/util/AbstractList" (1 : Nat) ({ cls := "java/util/AbstractCollection", name := "<init>", desc := "()V" } : Jvm.MethodName)) ∈ lw_gd := uc_1 (List.mem_of_getElem? (i := 72) (by decide +kernel)) (by decide +kernel)
theorem qc_313 : (Jvm.Cond.instanceMethod ({ cls := "java/util/AbstractCollection", name := "<init>", desc := "()V" } : Jvm.MethodName)) ∈ lw_gd := uc_1 (List.mem_of_getElem? (i := 73) (by decide +kernel)) (by decide +kernel)
theorem qc_314 : (Jvm.Cond.code ({ cls := "java/util/AbstractCollection", name := "<init>", desc := "()V" } : Jvm.MethodName) prog_35_method_1_code (1 : Nat) (Option.none : Option Jvm.ClassFile.FieldType)) ∈ lw_gd := uc_1 (List.mem_of_getElem? (i := 74) (by decide +kernel)) (by decide +kernel)
theorem qc_315 : (Jvm.Cond.methodLink "java/util/AbstractCollection" (1 : Nat) ({ cls := "java/lang/Object", name := "<init>", desc := "()V" } : Jvm.MethodName)) ∈ lw_gd := uc_1 (List.mem_of_getElem? (i := 75) (by decide +kernel)) (by decide +kernel)
theorem qc_320 : (Jvm.Cond.fieldLink "java/util/AbstractList" (7 : Nat) "java/util/AbstractList" "modCount" "I") ∈ lw_gd := uc_1 (List.mem_of_getElem? (i := 80) (by decide +kernel)) (by decide +kernel)
theorem qc_437 : (Jvm.Cond.methodLink "LineAssembler$Lexer" (3 : Nat) ({ cls := "java/lang/Object", name := "<init>", desc := "()V" } : Jvm.MethodName)) ∈ lw_gd := uc_1 (List.mem_of_getElem? (i := 197) (by decide +kernel)) (by decide +kernel)
theorem qc_459 : (Jvm.Cond.methodLink "LineAssembler$Formulas" (3 : Nat) ({ cls := "java/lang/Object", name := "<init>", desc := "()V" } : Jvm.MethodName)) ∈ lw_gd := uc_1 (List.mem_of_getElem? (i := 219) (by decide +kernel)) (by decide +kernel)
theorem qc_460 : (Jvm.Cond.classLink "LineAssembler$Formulas" (19 : Nat) "LineAssembler$Row") ∈ lw_gd := uc_1 (List.mem_of_getElem? (i := 220) (by decide +kernel)) (by decide +kernel)
theorem qc_510 : (Jvm.Cond.methodLink "LineAssembler$Parser" (3 : Nat) ({ cls := "java/lang/Object", name := "<init>", desc := "()V" } : Jvm.MethodName)) ∈ lw_gd := uc_2 (List.mem_of_getElem? (i := 30) (by decide +kernel)) (by decide +kernel)
theorem qc_529 : (Jvm.Cond.methodLink "LineAssembler$Encoder" (3 : Nat) ({ cls := "java/lang/Object", name := "<init>", desc := "()V" } : Jvm.MethodName)) ∈ lw_gd := uc_2 (List.mem_of_getElem? (i := 49) (by decide +kernel)) (by decide +kernel)
theorem qc_530 : (Jvm.Cond.classLink "LineAssembler$Encoder" (9 : Nat) "LineAssembler$Row") ∈ lw_gd := uc_2 (List.mem_of_getElem? (i := 50) (by decide +kernel)) (by decide +kernel)
section
variable {p : Program} {l : Launch} {e : Env} {R : Room} {s : State} {m : MethodId} {args : Array Value} {below : List Frame} {meth : Method} {c : Code} {H : Heap} {locs : List Loc} {cells slots : Nat} {Q : State → Prop} {pc : Nat} {ls : Array Slot} {rest : List Value} {cc : ByteArray} {nL : Nat} {rt : Option FieldType} {D : va_G} {dA : Nat → ClassId} {z : Nat → Nat} {A : Nat → Prop} {R0 : String} {Ws Ws' : List va_W}
theorem WdC.reord (hW : WdC D A s Ws H locs) (ps : List Nat) (n : Nat) (hn : Ws.length = n) (h : ps.Perm (List.range n)) (he : ps.filterMap (fun i => Ws[i]?) = Ws') : WdC D A s Ws' H locs := by
  have hp := cw_perm (Wc := Ws') (Wr := []) ps n hn h (by rw [he, List.append_nil])
  rw [List.flatten_nil, List.append_nil] at hp
  exact hW.perm hp
theorem x_putCg (C : CxC R0 p s m args meth c cc nL rt D dA z A) (hW : WdC D A s Ws H locs) (q0 : Nat) {a ci : Nat} {vc : vw_C} {fs : List Value} (he : Ws.flatten[q0]? = some (a, .inr (ci, fs))) (hc : classes[ci]? = some vc) (hin : ∀ w ∈ u_ws vc.1 vc.2.1 vc.2.2, w ∈ lw_gd) {ty0 : Nat → FieldType} (hty : ∀ k, k < vc.2.2 → parseFieldDescriptor (vc.2.1 k).2.2.1 = some (ty0 k)) (hnm : ∀ a, a < vc.2.2 → ∀ b, b < vc.2.2 → a ≠ b → (vc.2.1 a).2.1 ≠ (vc.2.1 b).2.1) (k : Nat) (hk : k < vc.2.2) {idx : Nat} {v : Value} {ty : FieldType} {ref : String} (hl : Cond.fieldLink R0 idx ref (vc.2.1 k).2.1 (vc.2.1 k).2.2.1 ∈ lw_gd) (hs : ∀ x, s.fieldFound? (vc.2.1 k).1 (vc.2.1 k).2.1 (vc.2.1 k).2.2.1 = some x → s.fieldFound? ref (vc.2.1 k).2.1 (vc.2.1 k).2.2.1 = some x) (hfin : (vc.2.1 k).2.2.2 = false) (hd : parseFieldDescriptor (vc.2.1 k).2.2.1 = some ty) (hn : narrow ty v = v) (hf : fits ty v = true) (hlen : k < fs.length)
    (hset : Ws.flatten.set q0 (a, .inr (ci, fs.set k v)) = Ws'.flatten) (hdg : decode cc pc = .ok (.putfield idx, 3))
    (kk : ∀ (H1 : Heap) (locs1 : List Loc), WdC D A s Ws' H1 locs1 → W p l e R s m args below meth c H1 locs1 cells slots Q (F0 m (pc + 3) ls rest)) : W p l e R s m args below meth c H locs cells slots Q (F0 m pc ls (v :: .ref a :: rest)) := by
  obtain ⟨⟨hx, hb, hml, hrt, hown, hT, hlk⟩, hK, hA, hEX⟩ := C
  refine va_put (D := D) (ci := ci) (C := vc.1) (T := vc.2.1) (N := vc.2.2) hx hb hT hin ty0 hty hnm hown hK hW.1 hW.2.1 hW.2.2 q0 he hc k hk (hT _ hl) hs hfin hd hn hf hlen hdg (fun H1 locs1 hP hD hS => ?_)
  rw [hset] at hP hD
  exact kk H1 locs1 ⟨hP, hD, hS⟩
end

theorem def_Row : ∀ j, j < (R_Row, F_Row, 2).2.2 → defaultValue (t_Row j) = vp_V [.int 0, .null] j
  | 0, _ => rfl
  | 1, _ => rfl
  | (n + 2), h => absurd h (by show ¬ n + 2 < 2; omega)
theorem def_Tok : ∀ j, j < (R_Tok, F_Tok, 6).2.2 → defaultValue (t_Tok j) = vp_V [.int 0, .int 0, .int 0, .null, .null, .null] j
  | 0, _ => rfl
  | 1, _ => rfl
  | 2, _ => rfl
  | 3, _ => rfl
  | 4, _ => rfl
  | 5, _ => rfl
  | (n + 6), h => absurd h (by show ¬ n + 6 < 6; omega)
theorem def_Lst : ∀ j, j < (R_Lst, F_Lst, 3).2.2 → defaultValue (t_Lst j) = vp_V [.null, .int 0, .int 0] j
  | 0, _ => rfl
  | 1, _ => rfl
  | 2, _ => rfl
  | (n + 3), h => absurd h (by show ¬ n + 3 < 3; omega)
theorem def_Prg : ∀ j, j < (R_Prg, F_Prg, 12).2.2 → defaultValue (t_Prg j) = vp_V [.null, .int 0, .int 0, .int 0, .int 0, .int 0, .int 0, .int 0, .int 0, .null, .null, .null] j
  | 0, _ => rfl
  | 1, _ => rfl
  | 2, _ => rfl
  | 3, _ => rfl
  | 4, _ => rfl
  | 5, _ => rfl
  | 6, _ => rfl
  | 7, _ => rfl
  | 8, _ => rfl
  | 9, _ => rfl
  | 10, _ => rfl
  | 11, _ => rfl
  | (n + 12), h => absurd h (by show ¬ n + 12 < 12; omega)
theorem def_Frm : ∀ j, j < (R_Frm, F_Frm, 13).2.2 → defaultValue (t_Frm j) = vp_V [.int 0, .int 0, .null, .null, .null, .null, .null, .null, .null, .int 0, .int 0, .int 0, .int 0] j
  | 0, _ => rfl
  | 1, _ => rfl
  | 2, _ => rfl
  | 3, _ => rfl
  | 4, _ => rfl
  | 5, _ => rfl
  | 6, _ => rfl
  | 7, _ => rfl
  | 8, _ => rfl
  | 9, _ => rfl
  | 10, _ => rfl
  | 11, _ => rfl
  | 12, _ => rfl
  | (n + 13), h => absurd h (by show ¬ n + 13 < 13; omega)
theorem def_Lex : ∀ j, j < (R_Lex, F_Lex, 5).2.2 → defaultValue (t_Lex j) = vp_V [.null, .null, .null, .null, .int 0] j
  | 0, _ => rfl
  | 1, _ => rfl
  | 2, _ => rfl
  | 3, _ => rfl
  | 4, _ => rfl
  | (n + 5), h => absurd h (by show ¬ n + 5 < 5; omega)
theorem def_Par : ∀ j, j < (R_Par, F_Par, 4).2.2 → defaultValue (t_Par j) = vp_V [.null, .null, .null, .null] j
  | 0, _ => rfl
  | 1, _ => rfl
  | 2, _ => rfl
  | 3, _ => rfl
  | (n + 4), h => absurd h (by show ¬ n + 4 < 4; omega)
theorem def_Enc : ∀ j, j < (R_Enc, F_Enc, 6).2.2 → defaultValue (t_Enc j) = vp_V [.null, .null, .int 0, .null, .null, .null] j
  | 0, _ => rfl
  | 1, _ => rfl
  | 2, _ => rfl
  | 3, _ => rfl
  | 4, _ => rfl
  | 5, _ => rfl
  | (n + 6), h => absurd h (by show ¬ n + 6 < 6; omega)
theorem def_Nam : ∀ j, j < (R_Nam, F_Nam, 15).2.2 → defaultValue (t_Nam j) = vp_V [.null, .null, .null, .null, .null, .int 0, .int 0, .int 0, .null, .null, .null, .null, .null, .int 0, .int 0] j
  | 0, _ => rfl
  | 1, _ => rfl
  | 2, _ => rfl
  | 3, _ => rfl
  | 4, _ => rfl
  | 5, _ => rfl
  | 6, _ => rfl
  | 7, _ => rfl
  | 8, _ => rfl
  | 9, _ => rfl
  | 10, _ => rfl
  | 11, _ => rfl
  | 12, _ => rfl
  | 13, _ => rfl
  | 14, _ => rfl
  | (n + 15), h => absurd h (by show ¬ n + 15 < 15; omega)
theorem def_Asm : ∀ j, j < (R_Asm, F_Asm, 10).2.2 → defaultValue (t_Asm j) = vp_V [.null, .null, .null, .null, .null, .null, .null, .null, .null, .int 0] j
  | 0, _ => rfl
  | 1, _ => rfl
  | 2, _ => rfl
  | 3, _ => rfl
  | 4, _ => rfl
  | 5, _ => rfl
  | 6, _ => rfl
  | 7, _ => rfl
  | 8, _ => rfl
  | 9, _ => rfl
  | (n + 10), h => absurd h (by show ¬ n + 10 < 10; omega)
abbrev cC_Row_init : ByteArray := prog_11_method_1_code
def yC_Row_init : MethodName := ⟨R_Row, "<init>", "()V"⟩
theorem dC_Row_init_0 : decode cC_Row_init 0 = .ok (.aload_n 0, 1) := by decide +kernel
theorem dC_Row_init_1 : decode cC_Row_init 1 = .ok (.invokespecial 1, 3) := by decide +kernel
theorem dC_Row_init_4 : decode cC_Row_init 4 = .ok (.aload_n 0, 1) := by decide +kernel
theorem dC_Row_init_5 : decode cC_Row_init 5 = .ok (.iconst (0), 1) := by decide +kernel
theorem dC_Row_init_6 : decode cC_Row_init 6 = .ok (.putfield 7, 3) := by decide +kernel
theorem dC_Row_init_9 : decode cC_Row_init 9 = .ok (.aload_n 0, 1) := by decide +kernel
theorem dC_Row_init_10 : decode cC_Row_init 10 = .ok (.bipush (64), 2) := by decide +kernel
theorem dC_Row_init_12 : decode cC_Row_init 12 = .ok (.newarray .int, 2) := by decide +kernel
theorem dC_Row_init_14 : decode cC_Row_init 14 = .ok (.putfield 13, 3) := by decide +kernel
theorem dC_Row_init_17 : decode cC_Row_init 17 = .ok (.return_, 1) := by decide +kernel
set_option maxHeartbeats 4000000 in
set_option maxRecDepth 100000 in
theorem kC_Row_init (l : Launch) (D : va_G) (dA : Nat → ClassId) (z : Nat → Nat) (q : Nat) : KC l D dA z yC_Row_init cC_Row_init 1 none 1 40 1 64 [[(q, .inr (1, [.int 0, .null]))]] [.ref q] (fun Ws' ov => ∃ a1 : Nat, Ws' = [[(q, .inr (1, [.int 0, .ref a1])), (a1, .inl (dA 2, 64, .inl (fun _ => 0)))]] ∧ ov = none) := by
  refine x_enterC (by decide +kernel) (Nat.le_of_ble_eq_true rfl) (fun p e s m args below meth c A C hname hW ls hl => ?_)
  have hx := C.1.1
  have hb := C.1.2.1
  have hown := C.1.2.2.2.2.1
  have hT := C.1.2.2.2.2.2.1
  have hl : lv_has ls 1 [(0, .ref q)] := hl
  have h64_64 : Int32.toNatClampNeg 64 = 64 := by decide +kernel
  refine lv_aload_n (pc := 0) hx hb dC_Row_init_0 rfl (lv_at hl 0 rfl) ?_
  refine x_objI (pc := 1) C qc_51 qc_44 qc_45 hl.1 dC_Row_init_1 (Nat.le_of_ble_eq_true rfl) (Nat.le_of_ble_eq_true rfl) ?_
  refine lv_aload_n (pc := 4) hx hb dC_Row_init_4 rfl (lv_at hl 0 rfl) ?_
  refine lv_iconst (pc := 5) (v := 0) hx hb dC_Row_init_5 (by decide) ?_
  refine x_putC (pc := 6) (ty := .int) (v := .int 0) (Ws' := [[(q, .inr (1, [.int 0, .null]))]]) C hW 0 rfl (ci := 1) rfl i_Row tok_Row n_Row 0 (by decide) qc_52 rfl rfl (by decide +kernel) rfl rfl (Nat.le_of_ble_eq_true rfl) rfl dC_Row_init_6 (fun H locs hW => ?_)
  refine lv_aload_n (pc := 9) hx hb dC_Row_init_9 rfl (lv_at hl 0 rfl) ?_
  refine lv_bipush (pc := 10) (v := 64) hx hb dC_Row_init_10 (by decide) ?_
  refine x_newI (pc := 12) (n := 64) C hW (by decide) (by decide) (by show _ + 1 ≤ 1; omega) (by show _ + 64 ≤ 64; omega) qc_63 dC_Row_init_12 (fun a1 H hW => ?_)
  have hW : WdC D A s [[(q, .inr (1, [.int 0, .null]))], [(a1, .inl (dA 2, 64, .inl (fun _ => 0)))]] H _ := hW
  refine x_putC (pc := 14) (ty := .array .int) (v := .ref a1) (Ws' := [[(q, .inr (1, [.int 0, .ref a1]))], [(a1, .inl (dA 2, 64, .inl (fun _ => 0)))]]) C hW 0 rfl (ci := 1) rfl i_Row tok_Row n_Row 1 (by decide) qc_57 rfl rfl (by decide +kernel) rfl rfl (Nat.le_of_ble_eq_true rfl) rfl dC_Row_init_14 (fun H locs hW => ?_)
  have hW := hW.eqf (Ws' := [[(q, .inr (1, [.int 0, .ref a1])), (a1, .inl (dA 2, 64, .inl (fun _ => 0)))]]) rfl
  exact x_retCv (pc := 17) C rfl hW ⟨a1, rfl, rfl⟩ (by show _ ≤ 1; omega) (by show _ ≤ 64; omega) dC_Row_init_17
abbrev cC_Tok_init : ByteArray := prog_12_method_1_code
def yC_Tok_init : MethodName := ⟨R_Tok, "<init>", "()V"⟩
theorem dC_Tok_init_0 : decode cC_Tok_init 0 = .ok (.aload_n 0, 1) := by decide +kernel
theorem dC_Tok_init_1 : decode cC_Tok_init 1 = .ok (.invokespecial 3, 3) := by decide +kernel
theorem dC_Tok_init_4 : decode cC_Tok_init 4 = .ok (.aload_n 0, 1) := by decide +kernel
theorem dC_Tok_init_5 : decode cC_Tok_init 5 = .ok (.iconst (0), 1) := by decide +kernel
theorem dC_Tok_init_6 : decode cC_Tok_init 6 = .ok (.putfield 9, 3) := by decide +kernel
theorem dC_Tok_init_9 : decode cC_Tok_init 9 = .ok (.aload_n 0, 1) := by decide +kernel
theorem dC_Tok_init_10 : decode cC_Tok_init 10 = .ok (.iconst (0), 1) := by decide +kernel
theorem dC_Tok_init_11 : decode cC_Tok_init 11 = .ok (.putfield 15, 3) := by decide +kernel
theorem dC_Tok_init_14 : decode cC_Tok_init 14 = .ok (.aload_n 0, 1) := by decide +kernel
theorem dC_Tok_init_15 : decode cC_Tok_init 15 = .ok (.iconst (0), 1) := by decide +kernel
theorem dC_Tok_init_16 : decode cC_Tok_init 16 = .ok (.putfield 18, 3) := by decide +kernel
theorem dC_Tok_init_19 : decode cC_Tok_init 19 = .ok (.aload_n 0, 1) := by decide +kernel
theorem dC_Tok_init_20 : decode cC_Tok_init 20 = .ok (.bipush (64), 2) := by decide +kernel
theorem dC_Tok_init_22 : decode cC_Tok_init 22 = .ok (.newarray .int, 2) := by decide +kernel
theorem dC_Tok_init_24 : decode cC_Tok_init 24 = .ok (.putfield 21, 3) := by decide +kernel
theorem dC_Tok_init_27 : decode cC_Tok_init 27 = .ok (.aload_n 0, 1) := by decide +kernel
theorem dC_Tok_init_28 : decode cC_Tok_init 28 = .ok (.bipush (64), 2) := by decide +kernel
theorem dC_Tok_init_30 : decode cC_Tok_init 30 = .ok (.newarray .int, 2) := by decide +kernel
theorem dC_Tok_init_32 : decode cC_Tok_init 32 = .ok (.putfield 25, 3) := by decide +kernel
theorem dC_Tok_init_35 : decode cC_Tok_init 35 = .ok (.aload_n 0, 1) := by decide +kernel
theorem dC_Tok_init_36 : decode cC_Tok_init 36 = .ok (.bipush (64), 2) := by decide +kernel
theorem dC_Tok_init_38 : decode cC_Tok_init 38 = .ok (.newarray .int, 2) := by decide +kernel
theorem dC_Tok_init_40 : decode cC_Tok_init 40 = .ok (.putfield 28, 3) := by decide +kernel
theorem dC_Tok_init_43 : decode cC_Tok_init 43 = .ok (.return_, 1) := by decide +kernel
set_option maxHeartbeats 4000000 in
set_option maxRecDepth 100000 in
theorem kC_Tok_init (l : Launch) (D : va_G) (dA : Nat → ClassId) (z : Nat → Nat) (q : Nat) : KC l D dA z yC_Tok_init cC_Tok_init 1 none 1 40 3 192 [[(q, .inr (3, [.int 0, .int 0, .int 0, .null, .null, .null]))]] [.ref q] (fun Ws' ov => ∃ a1 a2 a3 : Nat, Ws' = [[(q, .inr (3, [.int 0, .int 0, .int 0, .ref a1, .ref a2, .ref a3])), (a1, .inl (dA 2, 64, .inl (fun _ => 0))), (a2, .inl (dA 2, 64, .inl (fun _ => 0))), (a3, .inl (dA 2, 64, .inl (fun _ => 0)))]] ∧ ov = none) := by
  refine x_enterC (by decide +kernel) (Nat.le_of_ble_eq_true rfl) (fun p e s m args below meth c A C hname hW ls hl => ?_)
  have hx := C.1.1
  have hb := C.1.2.1
  have hown := C.1.2.2.2.2.1
  have hT := C.1.2.2.2.2.2.1
  have hl : lv_has ls 1 [(0, .ref q)] := hl
  have h64_64 : Int32.toNatClampNeg 64 = 64 := by decide +kernel
  refine lv_aload_n (pc := 0) hx hb dC_Tok_init_0 rfl (lv_at hl 0 rfl) ?_
  refine x_objI (pc := 1) C qc_275 qc_44 qc_45 hl.1 dC_Tok_init_1 (Nat.le_of_ble_eq_true rfl) (Nat.le_of_ble_eq_true rfl) ?_
  refine lv_aload_n (pc := 4) hx hb dC_Tok_init_4 rfl (lv_at hl 0 rfl) ?_
  refine lv_iconst (pc := 5) (v := 0) hx hb dC_Tok_init_5 (by decide) ?_
  refine x_putC (pc := 6) (ty := .int) (v := .int 0) (Ws' := [[(q, .inr (3, [.int 0, .int 0, .int 0, .null, .null, .null]))]]) C hW 0 rfl (ci := 3) rfl i_Tok tok_Tok n_Tok 0 (by decide) qc_276 rfl rfl (by decide +kernel) rfl rfl (Nat.le_of_ble_eq_true rfl) rfl dC_Tok_init_6 (fun H locs hW => ?_)
  refine lv_aload_n (pc := 9) hx hb dC_Tok_init_9 rfl (lv_at hl 0 rfl) ?_
  refine lv_iconst (pc := 10) (v := 0) hx hb dC_Tok_init_10 (by decide) ?_
  refine x_putC (pc := 11) (ty := .int) (v := .int 0) (Ws' := [[(q, .inr (3, [.int 0, .int 0, .int 0, .null, .null, .null]))]]) C hW 0 rfl (ci := 3) rfl i_Tok tok_Tok n_Tok 1 (by decide) qc_278 rfl rfl (by decide +kernel) rfl rfl (Nat.le_of_ble_eq_true rfl) rfl dC_Tok_init_11 (fun H locs hW => ?_)
  refine lv_aload_n (pc := 14) hx hb dC_Tok_init_14 rfl (lv_at hl 0 rfl) ?_
  refine lv_iconst (pc := 15) (v := 0) hx hb dC_Tok_init_15 (by decide) ?_
  refine x_putC (pc := 16) (ty := .int) (v := .int 0) (Ws' := [[(q, .inr (3, [.int 0, .int 0, .int 0, .null, .null, .null]))]]) C hW 0 rfl (ci := 3) rfl i_Tok tok_Tok n_Tok 2 (by decide) qc_279 rfl rfl (by decide +kernel) rfl rfl (Nat.le_of_ble_eq_true rfl) rfl dC_Tok_init_16 (fun H locs hW => ?_)
  refine lv_aload_n (pc := 19) hx hb dC_Tok_init_19 rfl (lv_at hl 0 rfl) ?_
  refine lv_bipush (pc := 20) (v := 64) hx hb dC_Tok_init_20 (by decide) ?_
  refine x_newI (pc := 22) (n := 64) C hW (by decide) (by decide) (by show _ + 1 ≤ 3; omega) (by show _ + 64 ≤ 192; omega) qc_63 dC_Tok_init_22 (fun a1 H hW => ?_)
  have hW : WdC D A s [[(q, .inr (3, [.int 0, .int 0, .int 0, .null, .null, .null]))], [(a1, .inl (dA 2, 64, .inl (fun _ => 0)))]] H _ := hW
  refine x_putC (pc := 24) (ty := .array .int) (v := .ref a1) (Ws' := [[(q, .inr (3, [.int 0, .int 0, .int 0, .ref a1, .null, .null]))], [(a1, .inl (dA 2, 64, .inl (fun _ => 0)))]]) C hW 0 rfl (ci := 3) rfl i_Tok tok_Tok n_Tok 3 (by decide) qc_280 rfl rfl (by decide +kernel) rfl rfl (Nat.le_of_ble_eq_true rfl) rfl dC_Tok_init_24 (fun H locs hW => ?_)
  refine lv_aload_n (pc := 27) hx hb dC_Tok_init_27 rfl (lv_at hl 0 rfl) ?_
  refine lv_bipush (pc := 28) (v := 64) hx hb dC_Tok_init_28 (by decide) ?_
  refine x_newI (pc := 30) (n := 64) C hW (by decide) (by decide) (by show _ + 1 ≤ 3; omega) (by show _ + 64 ≤ 192; omega) qc_63 dC_Tok_init_30 (fun a2 H hW => ?_)
  have hW : WdC D A s [[(q, .inr (3, [.int 0, .int 0, .int 0, .ref a1, .null, .null]))], [(a1, .inl (dA 2, 64, .inl (fun _ => 0)))], [(a2, .inl (dA 2, 64, .inl (fun _ => 0)))]] H _ := hW
  refine x_putC (pc := 32) (ty := .array .int) (v := .ref a2) (Ws' := [[(q, .inr (3, [.int 0, .int 0, .int 0, .ref a1, .ref a2, .null]))], [(a1, .inl (dA 2, 64, .inl (fun _ => 0)))], [(a2, .inl (dA 2, 64, .inl (fun _ => 0)))]]) C hW 0 rfl (ci := 3) rfl i_Tok tok_Tok n_Tok 4 (by decide) qc_281 rfl rfl (by decide +kernel) rfl rfl (Nat.le_of_ble_eq_true rfl) rfl dC_Tok_init_32 (fun H locs hW => ?_)
  refine lv_aload_n (pc := 35) hx hb dC_Tok_init_35 rfl (lv_at hl 0 rfl) ?_
  refine lv_bipush (pc := 36) (v := 64) hx hb dC_Tok_init_36 (by decide) ?_
  refine x_newI (pc := 38) (n := 64) C hW (by decide) (by decide) (by show _ + 1 ≤ 3; omega) (by show _ + 64 ≤ 192; omega) qc_63 dC_Tok_init_38 (fun a3 H hW => ?_)
  have hW : WdC D A s [[(q, .inr (3, [.int 0, .int 0, .int 0, .ref a1, .ref a2, .null]))], [(a1, .inl (dA 2, 64, .inl (fun _ => 0)))], [(a2, .inl (dA 2, 64, .inl (fun _ => 0)))], [(a3, .inl (dA 2, 64, .inl (fun _ => 0)))]] H _ := hW
  refine x_putC (pc := 40) (ty := .array .int) (v := .ref a3) (Ws' := [[(q, .inr (3, [.int 0, .int 0, .int 0, .ref a1, .ref a2, .ref a3]))], [(a1, .inl (dA 2, 64, .inl (fun _ => 0)))], [(a2, .inl (dA 2, 64, .inl (fun _ => 0)))], [(a3, .inl (dA 2, 64, .inl (fun _ => 0)))]]) C hW 0 rfl (ci := 3) rfl i_Tok tok_Tok n_Tok 5 (by decide) qc_282 rfl rfl (by decide +kernel) rfl rfl (Nat.le_of_ble_eq_true rfl) rfl dC_Tok_init_40 (fun H locs hW => ?_)
  have hW := hW.eqf (Ws' := [[(q, .inr (3, [.int 0, .int 0, .int 0, .ref a1, .ref a2, .ref a3])), (a1, .inl (dA 2, 64, .inl (fun _ => 0))), (a2, .inl (dA 2, 64, .inl (fun _ => 0))), (a3, .inl (dA 2, 64, .inl (fun _ => 0)))]]) rfl
  exact x_retCv (pc := 43) C rfl hW ⟨a1, a2, a3, rfl, rfl⟩ (by show _ ≤ 3; omega) (by show _ ≤ 192; omega) dC_Tok_init_43
abbrev cC_Abc_init : ByteArray := prog_35_method_1_code
def yC_Abc_init : MethodName := ⟨"java/util/AbstractCollection", "<init>", "()V"⟩
theorem dC_Abc_init_0 : decode cC_Abc_init 0 = .ok (.aload_n 0, 1) := by decide +kernel
theorem dC_Abc_init_1 : decode cC_Abc_init 1 = .ok (.invokespecial 1, 3) := by decide +kernel
theorem dC_Abc_init_4 : decode cC_Abc_init 4 = .ok (.return_, 1) := by decide +kernel
set_option maxHeartbeats 4000000 in
set_option maxRecDepth 100000 in
theorem kC_Abc_init (l : Launch) (D : va_G) (dA : Nat → ClassId) (z : Nat → Nat) (q : Nat) : KC l D dA z yC_Abc_init cC_Abc_init 1 none 1 40 0 0 [[(q, .inr (11, [.null, .int 0, .int 0]))]] [.ref q] (fun Ws' ov => Ws' = [[(q, .inr (11, [.null, .int 0, .int 0]))]] ∧ ov = none) := by
  refine x_enterC (by decide +kernel) (Nat.le_of_ble_eq_true rfl) (fun p e s m args below meth c A C hname hW ls hl => ?_)
  have hx := C.1.1
  have hb := C.1.2.1
  have hown := C.1.2.2.2.2.1
  have hT := C.1.2.2.2.2.2.1
  have hl : lv_has ls 1 [(0, .ref q)] := hl
  refine lv_aload_n (pc := 0) hx hb dC_Abc_init_0 rfl (lv_at hl 0 rfl) ?_
  refine x_objI (pc := 1) C qc_315 qc_44 qc_45 hl.1 dC_Abc_init_1 (Nat.le_of_ble_eq_true rfl) (Nat.le_of_ble_eq_true rfl) ?_
  have hW := hW.eqf (Ws' := [[(q, .inr (11, [.null, .int 0, .int 0]))]]) rfl
  exact x_retCv (pc := 4) C rfl hW ⟨rfl, rfl⟩ (by show _ ≤ 0; omega) (by show _ ≤ 0; omega) dC_Abc_init_4
abbrev cC_Abl_init : ByteArray := prog_36_method_1_code
def yC_Abl_init : MethodName := ⟨"java/util/AbstractList", "<init>", "()V"⟩
theorem dC_Abl_init_0 : decode cC_Abl_init 0 = .ok (.aload_n 0, 1) := by decide +kernel
theorem dC_Abl_init_1 : decode cC_Abl_init 1 = .ok (.invokespecial 1, 3) := by decide +kernel
theorem dC_Abl_init_4 : decode cC_Abl_init 4 = .ok (.aload_n 0, 1) := by decide +kernel
theorem dC_Abl_init_5 : decode cC_Abl_init 5 = .ok (.iconst (0), 1) := by decide +kernel
theorem dC_Abl_init_6 : decode cC_Abl_init 6 = .ok (.putfield 7, 3) := by decide +kernel
theorem dC_Abl_init_9 : decode cC_Abl_init 9 = .ok (.return_, 1) := by decide +kernel
set_option maxHeartbeats 4000000 in
set_option maxRecDepth 100000 in
theorem kC_Abl_init (l : Launch) (D : va_G) (dA : Nat → ClassId) (z : Nat → Nat) (q : Nat) : KC l D dA z yC_Abl_init cC_Abl_init 1 none 2 60 0 0 [[(q, .inr (11, [.null, .int 0, .int 0]))]] [.ref q] (fun Ws' ov => Ws' = [[(q, .inr (11, [.null, .int 0, .int 0]))]] ∧ ov = none) := by
  refine x_enterC (by decide +kernel) (Nat.le_of_ble_eq_true rfl) (fun p e s m args below meth c A C hname hW ls hl => ?_)
  have hx := C.1.1
  have hb := C.1.2.1
  have hown := C.1.2.2.2.2.1
  have hT := C.1.2.2.2.2.2.1
  have hl : lv_has ls 1 [(0, .ref q)] := hl
  refine lv_aload_n (pc := 0) hx hb dC_Abl_init_0 rfl (lv_at hl 0 rfl) ?_
  refine x_callI (pc := 1) (n' := 1) C hW (kC_Abc_init l D dA z q ) [0] rfl (by decide +kernel) rfl qc_314 qc_312 qc_313 qc_15 rfl ⟨by decide, by decide, by decide +kernel⟩ ⟨Nat.le_of_ble_eq_true rfl, Nat.le_of_ble_eq_true rfl⟩ ⟨by show _ + 0 ≤ 0; omega, by show _ + 0 ≤ 0; omega⟩ (As := []) (n := 0) rfl hl.1 rfl (Nat.le_of_ble_eq_true rfl) dC_Abl_init_1 (fun Wc' ov H locs hPo hWn => ?_)
  obtain ⟨rfl, rfl⟩ := hPo
  have hW := hWn [[(q, .inr (11, [.null, .int 0, .int 0]))]] rfl rfl
  refine lv_aload_n (pc := 4) hx hb dC_Abl_init_4 rfl (lv_at hl 0 rfl) ?_
  refine lv_iconst (pc := 5) (v := 0) hx hb dC_Abl_init_5 (by decide) ?_
  refine x_putCg (pc := 6) (ty := .int) (v := .int 0) (Ws' := [[(q, .inr (11, [.null, .int 0, .int 0]))]]) C hW 0 rfl (ci := 11) rfl i_Lst tok_Lst n_Lst 2 (by decide) qc_320 (fun _ h => h) rfl (by decide +kernel) rfl rfl (Nat.le_of_ble_eq_true rfl) rfl dC_Abl_init_6 (fun H locs hW => ?_)
  have hW := hW.eqf (Ws' := [[(q, .inr (11, [.null, .int 0, .int 0]))]]) rfl
  exact x_retCv (pc := 9) C rfl hW ⟨rfl, rfl⟩ (by show _ ≤ 0; omega) (by show _ ≤ 0; omega) dC_Abl_init_9
abbrev cC_Lst_init : ByteArray := prog_37_method_2_code
def yC_Lst_init : MethodName := ⟨R_Lst, "<init>", "()V"⟩
theorem dC_Lst_init_0 : decode cC_Lst_init 0 = .ok (.aload_n 0, 1) := by decide +kernel
theorem dC_Lst_init_1 : decode cC_Lst_init 1 = .ok (.invokespecial 1, 3) := by decide +kernel
theorem dC_Lst_init_4 : decode cC_Lst_init 4 = .ok (.aload_n 0, 1) := by decide +kernel
theorem dC_Lst_init_5 : decode cC_Lst_init 5 = .ok (.getstatic 39, 3) := by decide +kernel
theorem dC_Lst_init_8 : decode cC_Lst_init 8 = .ok (.putfield 9, 3) := by decide +kernel
theorem dC_Lst_init_11 : decode cC_Lst_init 11 = .ok (.return_, 1) := by decide +kernel
set_option maxHeartbeats 4000000 in
set_option maxRecDepth 100000 in
theorem kC_Lst_init (l : Launch) (D : va_G) (dA : Nat → ClassId) (z : Nat → Nat) (q : Nat) : KC l D dA z yC_Lst_init cC_Lst_init 1 none 3 80 0 0 [[(q, .inr (11, [.null, .int 0, .int 0]))]] [.ref q] (fun Ws' ov => Ws' = [[(q, .inr (11, [.ref (z 0), .int 0, .int 0]))]] ∧ ov = none) := by
  refine x_enterC (by decide +kernel) (Nat.le_of_ble_eq_true rfl) (fun p e s m args below meth c A C hname hW ls hl => ?_)
  have hx := C.1.1
  have hb := C.1.2.1
  have hown := C.1.2.2.2.2.1
  have hT := C.1.2.2.2.2.2.1
  have hl : lv_has ls 1 [(0, .ref q)] := hl
  refine lv_aload_n (pc := 0) hx hb dC_Lst_init_0 rfl (lv_at hl 0 rfl) ?_
  refine x_callI (pc := 1) (n' := 1) C hW (kC_Abl_init l D dA z q ) [0] rfl (by decide +kernel) rfl qc_311 qc_309 qc_310 qc_16 rfl ⟨by decide, by decide, by decide +kernel⟩ ⟨Nat.le_of_ble_eq_true rfl, Nat.le_of_ble_eq_true rfl⟩ ⟨by show _ + 0 ≤ 0; omega, by show _ + 0 ≤ 0; omega⟩ (As := []) (n := 0) rfl hl.1 rfl (Nat.le_of_ble_eq_true rfl) dC_Lst_init_1 (fun Wc' ov H locs hPo hWn => ?_)
  obtain ⟨rfl, rfl⟩ := hPo
  have hW := hWn [[(q, .inr (11, [.null, .int 0, .int 0]))]] rfl rfl
  refine lv_aload_n (pc := 4) hx hb dC_Lst_init_4 rfl (lv_at hl 0 rfl) ?_
  refine va_gets (pc := 5) hx hb C.2.2.2.z0 hW.2.2 hown (hT _ qc_316) (fun _ h => h) dC_Lst_init_5 ?_
  refine x_putC (pc := 8) (ty := .array (.object "java/lang/Object")) (v := .ref (z 0)) (Ws' := [[(q, .inr (11, [.ref (z 0), .int 0, .int 0]))]]) C hW 0 rfl (ci := 11) rfl i_Lst tok_Lst n_Lst 0 (by decide) qc_318 rfl rfl (by decide +kernel) rfl rfl (Nat.le_of_ble_eq_true rfl) rfl dC_Lst_init_8 (fun H locs hW => ?_)
  have hW := hW.eqf (Ws' := [[(q, .inr (11, [.ref (z 0), .int 0, .int 0]))]]) rfl
  exact x_retCv (pc := 11) C rfl hW ⟨rfl, rfl⟩ (by show _ ≤ 0; omega) (by show _ ≤ 0; omega) dC_Lst_init_11
abbrev cC_Prg_init : ByteArray := prog_10_method_1_code
def yC_Prg_init : MethodName := ⟨R_Prg, "<init>", "()V"⟩
theorem dC_Prg_init_0 : decode cC_Prg_init 0 = .ok (.aload_n 0, 1) := by decide +kernel
theorem dC_Prg_init_1 : decode cC_Prg_init 1 = .ok (.invokespecial 3, 3) := by decide +kernel
theorem dC_Prg_init_4 : decode cC_Prg_init 4 = .ok (.aload_n 0, 1) := by decide +kernel
theorem dC_Prg_init_5 : decode cC_Prg_init 5 = .ok (.new 9, 3) := by decide +kernel
theorem dC_Prg_init_8 : decode cC_Prg_init 8 = .ok (.dup, 1) := by decide +kernel
theorem dC_Prg_init_9 : decode cC_Prg_init 9 = .ok (.invokespecial 11, 3) := by decide +kernel
theorem dC_Prg_init_12 : decode cC_Prg_init 12 = .ok (.putfield 12, 3) := by decide +kernel
theorem dC_Prg_init_15 : decode cC_Prg_init 15 = .ok (.aload_n 0, 1) := by decide +kernel
theorem dC_Prg_init_16 : decode cC_Prg_init 16 = .ok (.iconst (0), 1) := by decide +kernel
theorem dC_Prg_init_17 : decode cC_Prg_init 17 = .ok (.putfield 18, 3) := by decide +kernel
theorem dC_Prg_init_20 : decode cC_Prg_init 20 = .ok (.aload_n 0, 1) := by decide +kernel
theorem dC_Prg_init_21 : decode cC_Prg_init 21 = .ok (.iconst (0), 1) := by decide +kernel
theorem dC_Prg_init_22 : decode cC_Prg_init 22 = .ok (.putfield 22, 3) := by decide +kernel
theorem dC_Prg_init_25 : decode cC_Prg_init 25 = .ok (.aload_n 0, 1) := by decide +kernel
theorem dC_Prg_init_26 : decode cC_Prg_init 26 = .ok (.iconst (0), 1) := by decide +kernel
theorem dC_Prg_init_27 : decode cC_Prg_init 27 = .ok (.putfield 25, 3) := by decide +kernel
theorem dC_Prg_init_30 : decode cC_Prg_init 30 = .ok (.aload_n 0, 1) := by decide +kernel
theorem dC_Prg_init_31 : decode cC_Prg_init 31 = .ok (.iconst (0), 1) := by decide +kernel
theorem dC_Prg_init_32 : decode cC_Prg_init 32 = .ok (.putfield 28, 3) := by decide +kernel
theorem dC_Prg_init_35 : decode cC_Prg_init 35 = .ok (.aload_n 0, 1) := by decide +kernel
theorem dC_Prg_init_36 : decode cC_Prg_init 36 = .ok (.iconst (0), 1) := by decide +kernel
theorem dC_Prg_init_37 : decode cC_Prg_init 37 = .ok (.putfield 31, 3) := by decide +kernel
theorem dC_Prg_init_40 : decode cC_Prg_init 40 = .ok (.aload_n 0, 1) := by decide +kernel
theorem dC_Prg_init_41 : decode cC_Prg_init 41 = .ok (.iconst (0), 1) := by decide +kernel
theorem dC_Prg_init_42 : decode cC_Prg_init 42 = .ok (.putfield 34, 3) := by decide +kernel
theorem dC_Prg_init_45 : decode cC_Prg_init 45 = .ok (.aload_n 0, 1) := by decide +kernel
theorem dC_Prg_init_46 : decode cC_Prg_init 46 = .ok (.iconst (0), 1) := by decide +kernel
theorem dC_Prg_init_47 : decode cC_Prg_init 47 = .ok (.putfield 38, 3) := by decide +kernel
theorem dC_Prg_init_50 : decode cC_Prg_init 50 = .ok (.aload_n 0, 1) := by decide +kernel
theorem dC_Prg_init_51 : decode cC_Prg_init 51 = .ok (.iconst (0), 1) := by decide +kernel
theorem dC_Prg_init_52 : decode cC_Prg_init 52 = .ok (.putfield 41, 3) := by decide +kernel
theorem dC_Prg_init_55 : decode cC_Prg_init 55 = .ok (.aload_n 0, 1) := by decide +kernel
theorem dC_Prg_init_56 : decode cC_Prg_init 56 = .ok (.new 44, 3) := by decide +kernel
theorem dC_Prg_init_59 : decode cC_Prg_init 59 = .ok (.dup, 1) := by decide +kernel
theorem dC_Prg_init_60 : decode cC_Prg_init 60 = .ok (.invokespecial 46, 3) := by decide +kernel
theorem dC_Prg_init_63 : decode cC_Prg_init 63 = .ok (.putfield 47, 3) := by decide +kernel
theorem dC_Prg_init_66 : decode cC_Prg_init 66 = .ok (.aload_n 0, 1) := by decide +kernel
theorem dC_Prg_init_67 : decode cC_Prg_init 67 = .ok (.new 51, 3) := by decide +kernel
theorem dC_Prg_init_70 : decode cC_Prg_init 70 = .ok (.dup, 1) := by decide +kernel
theorem dC_Prg_init_71 : decode cC_Prg_init 71 = .ok (.invokespecial 53, 3) := by decide +kernel
theorem dC_Prg_init_74 : decode cC_Prg_init 74 = .ok (.putfield 54, 3) := by decide +kernel
theorem dC_Prg_init_77 : decode cC_Prg_init 77 = .ok (.aload_n 0, 1) := by decide +kernel
theorem dC_Prg_init_78 : decode cC_Prg_init 78 = .ok (.bipush (10), 2) := by decide +kernel
theorem dC_Prg_init_80 : decode cC_Prg_init 80 = .ok (.newarray .int, 2) := by decide +kernel
theorem dC_Prg_init_82 : decode cC_Prg_init 82 = .ok (.putfield 58, 3) := by decide +kernel
theorem dC_Prg_init_85 : decode cC_Prg_init 85 = .ok (.return_, 1) := by decide +kernel
set_option maxHeartbeats 4000000 in
set_option maxRecDepth 100000 in
theorem kC_Prg_init (l : Launch) (D : va_G) (dA : Nat → ClassId) (z : Nat → Nat) (q : Nat) : KC l D dA z yC_Prg_init cC_Prg_init 1 none 4 100 5 88 [[(q, .inr (5, [.null, .int 0, .int 0, .int 0, .int 0, .int 0, .int 0, .int 0, .int 0, .null, .null, .null]))]] [.ref q] (fun Ws' ov => ∃ a1 a2 a3 a4 a5 : Nat, Ws' = [[(q, .inr (5, [.ref a1, .int 0, .int 0, .int 0, .int 0, .int 0, .int 0, .int 0, .int 0, .ref a3, .ref a4, .ref a5])), (a1, .inr (1, [.int 0, .ref a2])), (a2, .inl (dA 2, 64, .inl (fun _ => 0))), (a3, .inr (11, [.ref (z 0), .int 0, .int 0])), (a4, .inr (4, [.int 0, .int 0, .int 0, .int 0, .int 0, .int 0, .int 0, .int 0, .int 0])), (a5, .inl (dA 2, 10, .inl (fun _ => 0)))]] ∧ ov = none) := by
  refine x_enterC (by decide +kernel) (Nat.le_of_ble_eq_true rfl) (fun p e s m args below meth c A C hname hW ls hl => ?_)
  have hx := C.1.1
  have hb := C.1.2.1
  have hown := C.1.2.2.2.2.1
  have hT := C.1.2.2.2.2.2.1
  have hl : lv_has ls 1 [(0, .ref q)] := hl
  have h64_10 : Int32.toNatClampNeg 10 = 10 := by decide +kernel
  refine lv_aload_n (pc := 0) hx hb dC_Prg_init_0 rfl (lv_at hl 0 rfl) ?_
  refine x_objI (pc := 1) C qc_301 qc_44 qc_45 hl.1 dC_Prg_init_1 (Nat.le_of_ble_eq_true rfl) (Nat.le_of_ble_eq_true rfl) ?_
  refine lv_aload_n (pc := 4) hx hb dC_Prg_init_4 rfl (lv_at hl 0 rfl) ?_
  refine x_newC (pc := 5) (ci := 1) (vc := (R_Row, F_Row, 2)) (fs := [.int 0, .null]) (N := 2) C hW rfl rfl i_Row tok_Row qc_302 qc_47 qc_2 def_Row (by show _ + 1 ≤ 5; omega) (by show _ + 2 ≤ 88; omega) dC_Prg_init_5 (fun a1 H hW => ?_)
  refine lv_dup (pc := 8) hx hb dC_Prg_init_8 rfl ?_
  refine x_callN (pc := 9) (n' := 2) (host := "LineAssembler") C hW (kC_Row_init l D dA z a1 ) [1, 0] rfl (by decide +kernel) rfl qc_50 ex_m4 qc_49 qc_2 rfl ⟨by decide, by decide, by decide +kernel⟩ ⟨Nat.le_of_ble_eq_true rfl, Nat.le_of_ble_eq_true rfl⟩ ⟨by show _ + 1 ≤ 5; omega, by show _ + 64 ≤ 88; omega⟩ (As := []) (n := 0) rfl hl.1 rfl (Nat.le_of_ble_eq_true rfl) dC_Prg_init_9 (fun Wc' ov H locs hPo hWn => ?_)
  obtain ⟨a2, rfl, rfl⟩ := hPo
  have hW := hWn [[(q, .inr (5, [.null, .int 0, .int 0, .int 0, .int 0, .int 0, .int 0, .int 0, .int 0, .null, .null, .null]))], [(a1, .inr (1, [.int 0, .ref a2])), (a2, .inl (dA 2, 64, .inl (fun _ => 0)))]] rfl rfl
  refine x_putF (pc := 12) (ty := .object "LineAssembler$Row") (v := .ref a1) (Ws' := [[(q, .inr (5, [.ref a1, .int 0, .int 0, .int 0, .int 0, .int 0, .int 0, .int 0, .int 0, .null, .null, .null]))], [(a1, .inr (1, [.int 0, .ref a2])), (a2, .inl (dA 2, 64, .inl (fun _ => 0)))]]) C hW 0 rfl (ci := 5) rfl i_Prg tok_Prg n_Prg 0 (by decide) qc_384 rfl rfl hname rfl (by decide +kernel) rfl rfl (Nat.le_of_ble_eq_true rfl) rfl dC_Prg_init_12 (fun H locs hW => ?_)
  refine lv_aload_n (pc := 15) hx hb dC_Prg_init_15 rfl (lv_at hl 0 rfl) ?_
  refine lv_iconst (pc := 16) (v := 0) hx hb dC_Prg_init_16 (by decide) ?_
  refine x_putC (pc := 17) (ty := .int) (v := .int 0) (Ws' := [[(q, .inr (5, [.ref a1, .int 0, .int 0, .int 0, .int 0, .int 0, .int 0, .int 0, .int 0, .null, .null, .null]))], [(a1, .inr (1, [.int 0, .ref a2])), (a2, .inl (dA 2, 64, .inl (fun _ => 0)))]]) C hW 0 rfl (ci := 5) rfl i_Prg tok_Prg n_Prg 1 (by decide) qc_387 rfl rfl (by decide +kernel) rfl rfl (Nat.le_of_ble_eq_true rfl) rfl dC_Prg_init_17 (fun H locs hW => ?_)
  refine lv_aload_n (pc := 20) hx hb dC_Prg_init_20 rfl (lv_at hl 0 rfl) ?_
  refine lv_iconst (pc := 21) (v := 0) hx hb dC_Prg_init_21 (by decide) ?_
  refine x_putC (pc := 22) (ty := .int) (v := .int 0) (Ws' := [[(q, .inr (5, [.ref a1, .int 0, .int 0, .int 0, .int 0, .int 0, .int 0, .int 0, .int 0, .null, .null, .null]))], [(a1, .inr (1, [.int 0, .ref a2])), (a2, .inl (dA 2, 64, .inl (fun _ => 0)))]]) C hW 0 rfl (ci := 5) rfl i_Prg tok_Prg n_Prg 2 (by decide) qc_390 rfl rfl (by decide +kernel) rfl rfl (Nat.le_of_ble_eq_true rfl) rfl dC_Prg_init_22 (fun H locs hW => ?_)
  refine lv_aload_n (pc := 25) hx hb dC_Prg_init_25 rfl (lv_at hl 0 rfl) ?_
  refine lv_iconst (pc := 26) (v := 0) hx hb dC_Prg_init_26 (by decide) ?_
  refine x_putC (pc := 27) (ty := .int) (v := .int 0) (Ws' := [[(q, .inr (5, [.ref a1, .int 0, .int 0, .int 0, .int 0, .int 0, .int 0, .int 0, .int 0, .null, .null, .null]))], [(a1, .inr (1, [.int 0, .ref a2])), (a2, .inl (dA 2, 64, .inl (fun _ => 0)))]]) C hW 0 rfl (ci := 5) rfl i_Prg tok_Prg n_Prg 3 (by decide) qc_393 rfl rfl (by decide +kernel) rfl rfl (Nat.le_of_ble_eq_true rfl) rfl dC_Prg_init_27 (fun H locs hW => ?_)
  refine lv_aload_n (pc := 30) hx hb dC_Prg_init_30 rfl (lv_at hl 0 rfl) ?_
  refine lv_iconst (pc := 31) (v := 0) hx hb dC_Prg_init_31 (by decide) ?_
  refine x_putC (pc := 32) (ty := .int) (v := .int 0) (Ws' := [[(q, .inr (5, [.ref a1, .int 0, .int 0, .int 0, .int 0, .int 0, .int 0, .int 0, .int 0, .null, .null, .null]))], [(a1, .inr (1, [.int 0, .ref a2])), (a2, .inl (dA 2, 64, .inl (fun _ => 0)))]]) C hW 0 rfl (ci := 5) rfl i_Prg tok_Prg n_Prg 4 (by decide) qc_395 rfl rfl (by decide +kernel) rfl rfl (Nat.le_of_ble_eq_true rfl) rfl dC_Prg_init_32 (fun H locs hW => ?_)
  refine lv_aload_n (pc := 35) hx hb dC_Prg_init_35 rfl (lv_at hl 0 rfl) ?_
  refine lv_iconst (pc := 36) (v := 0) hx hb dC_Prg_init_36 (by decide) ?_
  refine x_putC (pc := 37) (ty := .int) (v := .int 0) (Ws' := [[(q, .inr (5, [.ref a1, .int 0, .int 0, .int 0, .int 0, .int 0, .int 0, .int 0, .int 0, .null, .null, .null]))], [(a1, .inr (1, [.int 0, .ref a2])), (a2, .inl (dA 2, 64, .inl (fun _ => 0)))]]) C hW 0 rfl (ci := 5) rfl i_Prg tok_Prg n_Prg 5 (by decide) qc_397 rfl rfl (by decide +kernel) rfl rfl (Nat.le_of_ble_eq_true rfl) rfl dC_Prg_init_37 (fun H locs hW => ?_)
  refine lv_aload_n (pc := 40) hx hb dC_Prg_init_40 rfl (lv_at hl 0 rfl) ?_
  refine lv_iconst (pc := 41) (v := 0) hx hb dC_Prg_init_41 (by decide) ?_
  refine x_putC (pc := 42) (ty := .boolean) (v := .int 0) (Ws' := [[(q, .inr (5, [.ref a1, .int 0, .int 0, .int 0, .int 0, .int 0, .int 0, .int 0, .int 0, .null, .null, .null]))], [(a1, .inr (1, [.int 0, .ref a2])), (a2, .inl (dA 2, 64, .inl (fun _ => 0)))]]) C hW 0 rfl (ci := 5) rfl i_Prg tok_Prg n_Prg 6 (by decide) qc_399 rfl rfl (by decide +kernel) rfl rfl (Nat.le_of_ble_eq_true rfl) rfl dC_Prg_init_42 (fun H locs hW => ?_)
  refine lv_aload_n (pc := 45) hx hb dC_Prg_init_45 rfl (lv_at hl 0 rfl) ?_
  refine lv_iconst (pc := 46) (v := 0) hx hb dC_Prg_init_46 (by decide) ?_
  refine x_putC (pc := 47) (ty := .int) (v := .int 0) (Ws' := [[(q, .inr (5, [.ref a1, .int 0, .int 0, .int 0, .int 0, .int 0, .int 0, .int 0, .int 0, .null, .null, .null]))], [(a1, .inr (1, [.int 0, .ref a2])), (a2, .inl (dA 2, 64, .inl (fun _ => 0)))]]) C hW 0 rfl (ci := 5) rfl i_Prg tok_Prg n_Prg 7 (by decide) qc_401 rfl rfl (by decide +kernel) rfl rfl (Nat.le_of_ble_eq_true rfl) rfl dC_Prg_init_47 (fun H locs hW => ?_)
  refine lv_aload_n (pc := 50) hx hb dC_Prg_init_50 rfl (lv_at hl 0 rfl) ?_
  refine lv_iconst (pc := 51) (v := 0) hx hb dC_Prg_init_51 (by decide) ?_
  refine x_putC (pc := 52) (ty := .int) (v := .int 0) (Ws' := [[(q, .inr (5, [.ref a1, .int 0, .int 0, .int 0, .int 0, .int 0, .int 0, .int 0, .int 0, .null, .null, .null]))], [(a1, .inr (1, [.int 0, .ref a2])), (a2, .inl (dA 2, 64, .inl (fun _ => 0)))]]) C hW 0 rfl (ci := 5) rfl i_Prg tok_Prg n_Prg 8 (by decide) qc_403 rfl rfl (by decide +kernel) rfl rfl (Nat.le_of_ble_eq_true rfl) rfl dC_Prg_init_52 (fun H locs hW => ?_)
  refine lv_aload_n (pc := 55) hx hb dC_Prg_init_55 rfl (lv_at hl 0 rfl) ?_
  refine x_newC (pc := 56) (ci := 11) (vc := (R_Lst, F_Lst, 3)) (fs := [.null, .int 0, .int 0]) (N := 3) C hW rfl rfl i_Lst tok_Lst qc_304 qc_305 qc_17 def_Lst (by show _ + 1 ≤ 5; omega) (by show _ + 3 ≤ 88; omega) dC_Prg_init_56 (fun a3 H hW => ?_)
  refine lv_dup (pc := 59) hx hb dC_Prg_init_59 rfl ?_
  refine x_callI (pc := 60) (n' := 3) C hW (kC_Lst_init l D dA z a3 ) [2, 0, 1] rfl (by decide +kernel) rfl qc_308 qc_306 qc_307 qc_17 rfl ⟨by decide, by decide, by decide +kernel⟩ ⟨Nat.le_of_ble_eq_true rfl, Nat.le_of_ble_eq_true rfl⟩ ⟨by show _ + 0 ≤ 5; omega, by show _ + 0 ≤ 88; omega⟩ (As := []) (n := 0) rfl hl.1 rfl (Nat.le_of_ble_eq_true rfl) dC_Prg_init_60 (fun Wc' ov H locs hPo hWn => ?_)
  obtain ⟨rfl, rfl⟩ := hPo
  have hW := hWn [[(q, .inr (5, [.ref a1, .int 0, .int 0, .int 0, .int 0, .int 0, .int 0, .int 0, .int 0, .null, .null, .null]))], [(a1, .inr (1, [.int 0, .ref a2])), (a2, .inl (dA 2, 64, .inl (fun _ => 0)))], [(a3, .inr (11, [.ref (z 0), .int 0, .int 0]))]] rfl rfl
  refine x_putF (pc := 63) (ty := .object "java/util/ArrayList") (v := .ref a3) (Ws' := [[(q, .inr (5, [.ref a1, .int 0, .int 0, .int 0, .int 0, .int 0, .int 0, .int 0, .int 0, .ref a3, .null, .null]))], [(a1, .inr (1, [.int 0, .ref a2])), (a2, .inl (dA 2, 64, .inl (fun _ => 0)))], [(a3, .inr (11, [.ref (z 0), .int 0, .int 0]))]]) C hW 0 rfl (ci := 5) rfl i_Prg tok_Prg n_Prg 9 (by decide) qc_404 rfl rfl hname rfl (by decide +kernel) rfl rfl (Nat.le_of_ble_eq_true rfl) rfl dC_Prg_init_63 (fun H locs hW => ?_)
  refine lv_aload_n (pc := 66) hx hb dC_Prg_init_66 rfl (lv_at hl 0 rfl) ?_
  refine x_newC (pc := 67) (ci := 4) (vc := (R_Itm, F_Itm, 9)) (fs := [.int 0, .int 0, .int 0, .int 0, .int 0, .int 0, .int 0, .int 0, .int 0]) (N := 9) C hW rfl rfl i_Itm tok_Itm qc_330 qc_331 qc_18 def_Itm (by show _ + 1 ≤ 5; omega) (by show _ + 9 ≤ 88; omega) dC_Prg_init_67 (fun a4 H hW => ?_)
  refine lv_dup (pc := 70) hx hb dC_Prg_init_70 rfl ?_
  refine x_callN (pc := 71) (n' := 4) (host := "LineAssembler") C hW (kC_Itm_init l D dA z a4 ) [3, 0, 1, 2] rfl (by decide +kernel) rfl qc_334 ex_m5 qc_333 qc_18 rfl ⟨by decide, by decide, by decide +kernel⟩ ⟨Nat.le_of_ble_eq_true rfl, Nat.le_of_ble_eq_true rfl⟩ ⟨by show _ + 0 ≤ 5; omega, by show _ + 0 ≤ 88; omega⟩ (As := []) (n := 0) rfl hl.1 rfl (Nat.le_of_ble_eq_true rfl) dC_Prg_init_71 (fun Wc' ov H locs hPo hWn => ?_)
  obtain ⟨rfl, rfl⟩ := hPo
  have hW := hWn [[(q, .inr (5, [.ref a1, .int 0, .int 0, .int 0, .int 0, .int 0, .int 0, .int 0, .int 0, .ref a3, .null, .null]))], [(a1, .inr (1, [.int 0, .ref a2])), (a2, .inl (dA 2, 64, .inl (fun _ => 0)))], [(a3, .inr (11, [.ref (z 0), .int 0, .int 0]))], [(a4, .inr (4, [.int 0, .int 0, .int 0, .int 0, .int 0, .int 0, .int 0, .int 0, .int 0]))]] rfl rfl
  refine x_putF (pc := 74) (ty := .object "LineAssembler$Item") (v := .ref a4) (Ws' := [[(q, .inr (5, [.ref a1, .int 0, .int 0, .int 0, .int 0, .int 0, .int 0, .int 0, .int 0, .ref a3, .ref a4, .null]))], [(a1, .inr (1, [.int 0, .ref a2])), (a2, .inl (dA 2, 64, .inl (fun _ => 0)))], [(a3, .inr (11, [.ref (z 0), .int 0, .int 0]))], [(a4, .inr (4, [.int 0, .int 0, .int 0, .int 0, .int 0, .int 0, .int 0, .int 0, .int 0]))]]) C hW 0 rfl (ci := 5) rfl i_Prg tok_Prg n_Prg 10 (by decide) qc_405 rfl rfl hname rfl (by decide +kernel) rfl rfl (Nat.le_of_ble_eq_true rfl) rfl dC_Prg_init_74 (fun H locs hW => ?_)
  refine lv_aload_n (pc := 77) hx hb dC_Prg_init_77 rfl (lv_at hl 0 rfl) ?_
  refine lv_bipush (pc := 78) (v := 10) hx hb dC_Prg_init_78 (by decide) ?_
  refine x_newI (pc := 80) (n := 10) C hW (by decide) (by decide) (by show _ + 1 ≤ 5; omega) (by show _ + 10 ≤ 88; omega) qc_63 dC_Prg_init_80 (fun a5 H hW => ?_)
  have hW : WdC D A s [[(q, .inr (5, [.ref a1, .int 0, .int 0, .int 0, .int 0, .int 0, .int 0, .int 0, .int 0, .ref a3, .ref a4, .null]))], [(a1, .inr (1, [.int 0, .ref a2])), (a2, .inl (dA 2, 64, .inl (fun _ => 0)))], [(a3, .inr (11, [.ref (z 0), .int 0, .int 0]))], [(a4, .inr (4, [.int 0, .int 0, .int 0, .int 0, .int 0, .int 0, .int 0, .int 0, .int 0]))], [(a5, .inl (dA 2, 10, .inl (fun _ => 0)))]] H _ := hW
  refine x_putF (pc := 82) (ty := .array .int) (v := .ref a5) (Ws' := [[(q, .inr (5, [.ref a1, .int 0, .int 0, .int 0, .int 0, .int 0, .int 0, .int 0, .int 0, .ref a3, .ref a4, .ref a5]))], [(a1, .inr (1, [.int 0, .ref a2])), (a2, .inl (dA 2, 64, .inl (fun _ => 0)))], [(a3, .inr (11, [.ref (z 0), .int 0, .int 0]))], [(a4, .inr (4, [.int 0, .int 0, .int 0, .int 0, .int 0, .int 0, .int 0, .int 0, .int 0]))], [(a5, .inl (dA 2, 10, .inl (fun _ => 0)))]]) C hW 0 rfl (ci := 5) rfl i_Prg tok_Prg n_Prg 11 (by decide) qc_406 rfl rfl hname rfl (by decide +kernel) rfl rfl (Nat.le_of_ble_eq_true rfl) rfl dC_Prg_init_82 (fun H locs hW => ?_)
  have hW := hW.eqf (Ws' := [[(q, .inr (5, [.ref a1, .int 0, .int 0, .int 0, .int 0, .int 0, .int 0, .int 0, .int 0, .ref a3, .ref a4, .ref a5])), (a1, .inr (1, [.int 0, .ref a2])), (a2, .inl (dA 2, 64, .inl (fun _ => 0))), (a3, .inr (11, [.ref (z 0), .int 0, .int 0])), (a4, .inr (4, [.int 0, .int 0, .int 0, .int 0, .int 0, .int 0, .int 0, .int 0, .int 0])), (a5, .inl (dA 2, 10, .inl (fun _ => 0)))]]) rfl
  exact x_retCv (pc := 85) C rfl hW ⟨a1, a2, a3, a4, a5, rfl, rfl⟩ (by show _ ≤ 5; omega) (by show _ ≤ 88; omega) dC_Prg_init_85
abbrev cC_Frm_init : ByteArray := prog_4_method_1_code
def yC_Frm_init : MethodName := ⟨R_Frm, "<init>", "(LLineAssembler$Names;LLineAssembler$Tokens;LLineAssembler$Program;)V"⟩
theorem dC_Frm_init_0 : decode cC_Frm_init 0 = .ok (.aload_n 0, 1) := by decide +kernel
theorem dC_Frm_init_1 : decode cC_Frm_init 1 = .ok (.invokespecial 3, 3) := by decide +kernel
theorem dC_Frm_init_4 : decode cC_Frm_init 4 = .ok (.aload_n 0, 1) := by decide +kernel
theorem dC_Frm_init_5 : decode cC_Frm_init 5 = .ok (.iconst (1), 1) := by decide +kernel
theorem dC_Frm_init_6 : decode cC_Frm_init 6 = .ok (.putfield 9, 3) := by decide +kernel
theorem dC_Frm_init_9 : decode cC_Frm_init 9 = .ok (.aload_n 0, 1) := by decide +kernel
theorem dC_Frm_init_10 : decode cC_Frm_init 10 = .ok (.iconst (0), 1) := by decide +kernel
theorem dC_Frm_init_11 : decode cC_Frm_init 11 = .ok (.putfield 15, 3) := by decide +kernel
theorem dC_Frm_init_14 : decode cC_Frm_init 14 = .ok (.aload_n 0, 1) := by decide +kernel
theorem dC_Frm_init_15 : decode cC_Frm_init 15 = .ok (.new 19, 3) := by decide +kernel
theorem dC_Frm_init_18 : decode cC_Frm_init 18 = .ok (.dup, 1) := by decide +kernel
theorem dC_Frm_init_19 : decode cC_Frm_init 19 = .ok (.invokespecial 21, 3) := by decide +kernel
theorem dC_Frm_init_22 : decode cC_Frm_init 22 = .ok (.putfield 22, 3) := by decide +kernel
theorem dC_Frm_init_25 : decode cC_Frm_init 25 = .ok (.aload_n 0, 1) := by decide +kernel
theorem dC_Frm_init_26 : decode cC_Frm_init 26 = .ok (.new 19, 3) := by decide +kernel
theorem dC_Frm_init_29 : decode cC_Frm_init 29 = .ok (.dup, 1) := by decide +kernel
theorem dC_Frm_init_30 : decode cC_Frm_init 30 = .ok (.invokespecial 21, 3) := by decide +kernel
theorem dC_Frm_init_33 : decode cC_Frm_init 33 = .ok (.putfield 26, 3) := by decide +kernel
theorem dC_Frm_init_36 : decode cC_Frm_init 36 = .ok (.aload_n 0, 1) := by decide +kernel
theorem dC_Frm_init_37 : decode cC_Frm_init 37 = .ok (.new 19, 3) := by decide +kernel
theorem dC_Frm_init_40 : decode cC_Frm_init 40 = .ok (.dup, 1) := by decide +kernel
theorem dC_Frm_init_41 : decode cC_Frm_init 41 = .ok (.invokespecial 21, 3) := by decide +kernel
theorem dC_Frm_init_44 : decode cC_Frm_init 44 = .ok (.putfield 29, 3) := by decide +kernel
theorem dC_Frm_init_47 : decode cC_Frm_init 47 = .ok (.aload_n 0, 1) := by decide +kernel
theorem dC_Frm_init_48 : decode cC_Frm_init 48 = .ok (.new 19, 3) := by decide +kernel
theorem dC_Frm_init_51 : decode cC_Frm_init 51 = .ok (.dup, 1) := by decide +kernel
theorem dC_Frm_init_52 : decode cC_Frm_init 52 = .ok (.invokespecial 21, 3) := by decide +kernel
theorem dC_Frm_init_55 : decode cC_Frm_init 55 = .ok (.putfield 32, 3) := by decide +kernel
theorem dC_Frm_init_58 : decode cC_Frm_init 58 = .ok (.aload_n 0, 1) := by decide +kernel
theorem dC_Frm_init_59 : decode cC_Frm_init 59 = .ok (.iconst (1), 1) := by decide +kernel
theorem dC_Frm_init_60 : decode cC_Frm_init 60 = .ok (.putfield 35, 3) := by decide +kernel
theorem dC_Frm_init_63 : decode cC_Frm_init 63 = .ok (.aload_n 0, 1) := by decide +kernel
theorem dC_Frm_init_64 : decode cC_Frm_init 64 = .ok (.iconst (0), 1) := by decide +kernel
theorem dC_Frm_init_65 : decode cC_Frm_init 65 = .ok (.putfield 38, 3) := by decide +kernel
theorem dC_Frm_init_68 : decode cC_Frm_init 68 = .ok (.aload_n 0, 1) := by decide +kernel
theorem dC_Frm_init_69 : decode cC_Frm_init 69 = .ok (.iconst (0), 1) := by decide +kernel
theorem dC_Frm_init_70 : decode cC_Frm_init 70 = .ok (.putfield 41, 3) := by decide +kernel
theorem dC_Frm_init_73 : decode cC_Frm_init 73 = .ok (.aload_n 0, 1) := by decide +kernel
theorem dC_Frm_init_74 : decode cC_Frm_init 74 = .ok (.iconst (0), 1) := by decide +kernel
theorem dC_Frm_init_75 : decode cC_Frm_init 75 = .ok (.putfield 44, 3) := by decide +kernel
theorem dC_Frm_init_78 : decode cC_Frm_init 78 = .ok (.aload_n 0, 1) := by decide +kernel
theorem dC_Frm_init_79 : decode cC_Frm_init 79 = .ok (.aload_n 1, 1) := by decide +kernel
theorem dC_Frm_init_80 : decode cC_Frm_init 80 = .ok (.putfield 47, 3) := by decide +kernel
theorem dC_Frm_init_83 : decode cC_Frm_init 83 = .ok (.aload_n 0, 1) := by decide +kernel
theorem dC_Frm_init_84 : decode cC_Frm_init 84 = .ok (.aload_n 2, 1) := by decide +kernel
theorem dC_Frm_init_85 : decode cC_Frm_init 85 = .ok (.putfield 51, 3) := by decide +kernel
theorem dC_Frm_init_88 : decode cC_Frm_init 88 = .ok (.aload_n 0, 1) := by decide +kernel
theorem dC_Frm_init_89 : decode cC_Frm_init 89 = .ok (.aload_n 3, 1) := by decide +kernel
theorem dC_Frm_init_90 : decode cC_Frm_init 90 = .ok (.putfield 55, 3) := by decide +kernel
theorem dC_Frm_init_93 : decode cC_Frm_init 93 = .ok (.return_, 1) := by decide +kernel
set_option maxHeartbeats 4000000 in
set_option maxRecDepth 100000 in
theorem kC_Frm_init (l : Launch) (D : va_G) (dA : Nat → ClassId) (z : Nat → Nat) (q : Nat) (p1 : Nat) (p2 : Nat) (p3 : Nat) : KC l D dA z yC_Frm_init cC_Frm_init 4 none 2 60 8 264 [[(q, .inr (7, [.int 0, .int 0, .null, .null, .null, .null, .null, .null, .null, .int 0, .int 0, .int 0, .int 0]))]] [.ref q, .ref p1, .ref p2, .ref p3] (fun Ws' ov => ∃ a1 a2 a3 a4 a5 a6 a7 a8 : Nat, Ws' = [[(q, .inr (7, [.int 1, .int 0, .ref p1, .ref p2, .ref p3, .ref a1, .ref a3, .ref a5, .ref a7, .int 1, .int 0, .int 0, .int 0])), (a1, .inr (1, [.int 0, .ref a2])), (a2, .inl (dA 2, 64, .inl (fun _ => 0))), (a3, .inr (1, [.int 0, .ref a4])), (a4, .inl (dA 2, 64, .inl (fun _ => 0))), (a5, .inr (1, [.int 0, .ref a6])), (a6, .inl (dA 2, 64, .inl (fun _ => 0))), (a7, .inr (1, [.int 0, .ref a8])), (a8, .inl (dA 2, 64, .inl (fun _ => 0)))]] ∧ ov = none) := by
  refine x_enterC (by decide +kernel) (Nat.le_of_ble_eq_true rfl) (fun p e s m args below meth c A C hname hW ls hl => ?_)
  have hx := C.1.1
  have hb := C.1.2.1
  have hown := C.1.2.2.2.2.1
  have hT := C.1.2.2.2.2.2.1
  have hl : lv_has ls 4 [(0, .ref q), (1, .ref p1), (2, .ref p2), (3, .ref p3)] := hl
  refine lv_aload_n (pc := 0) hx hb dC_Frm_init_0 rfl (lv_at hl 0 rfl) ?_
  refine x_objI (pc := 1) C qc_459 qc_44 qc_45 hl.1 dC_Frm_init_1 (Nat.le_of_ble_eq_true rfl) (Nat.le_of_ble_eq_true rfl) ?_
  refine lv_aload_n (pc := 4) hx hb dC_Frm_init_4 rfl (lv_at hl 0 rfl) ?_
  refine lv_iconst (pc := 5) (v := 1) hx hb dC_Frm_init_5 (by decide) ?_
  refine x_putC (pc := 6) (ty := .boolean) (v := .int 1) (Ws' := [[(q, .inr (7, [.int 1, .int 0, .null, .null, .null, .null, .null, .null, .null, .int 0, .int 0, .int 0, .int 0]))]]) C hW 0 rfl (ci := 7) rfl i_Frm tok_Frm n_Frm 0 (by decide) qc_462 rfl rfl (by decide +kernel) rfl rfl (Nat.le_of_ble_eq_true rfl) rfl dC_Frm_init_6 (fun H locs hW => ?_)
  refine lv_aload_n (pc := 9) hx hb dC_Frm_init_9 rfl (lv_at hl 0 rfl) ?_
  refine lv_iconst (pc := 10) (v := 0) hx hb dC_Frm_init_10 (by decide) ?_
  refine x_putC (pc := 11) (ty := .int) (v := .int 0) (Ws' := [[(q, .inr (7, [.int 1, .int 0, .null, .null, .null, .null, .null, .null, .null, .int 0, .int 0, .int 0, .int 0]))]]) C hW 0 rfl (ci := 7) rfl i_Frm tok_Frm n_Frm 1 (by decide) qc_464 rfl rfl (by decide +kernel) rfl rfl (Nat.le_of_ble_eq_true rfl) rfl dC_Frm_init_11 (fun H locs hW => ?_)
  refine lv_aload_n (pc := 14) hx hb dC_Frm_init_14 rfl (lv_at hl 0 rfl) ?_
  refine x_newC (pc := 15) (ci := 1) (vc := (R_Row, F_Row, 2)) (fs := [.int 0, .null]) (N := 2) C hW rfl rfl i_Row tok_Row qc_460 qc_47 qc_2 def_Row (by show _ + 1 ≤ 8; omega) (by show _ + 2 ≤ 264; omega) dC_Frm_init_15 (fun a1 H hW => ?_)
  refine lv_dup (pc := 18) hx hb dC_Frm_init_18 rfl ?_
  refine x_callN (pc := 19) (n' := 2) (host := "LineAssembler") C hW (kC_Row_init l D dA z a1 ) [1, 0] rfl (by decide +kernel) rfl qc_50 ex_m6 qc_49 qc_2 rfl ⟨by decide, by decide, by decide +kernel⟩ ⟨Nat.le_of_ble_eq_true rfl, Nat.le_of_ble_eq_true rfl⟩ ⟨by show _ + 1 ≤ 8; omega, by show _ + 64 ≤ 264; omega⟩ (As := []) (n := 0) rfl hl.1 rfl (Nat.le_of_ble_eq_true rfl) dC_Frm_init_19 (fun Wc' ov H locs hPo hWn => ?_)
  obtain ⟨a2, rfl, rfl⟩ := hPo
  have hW := hWn [[(q, .inr (7, [.int 1, .int 0, .null, .null, .null, .null, .null, .null, .null, .int 0, .int 0, .int 0, .int 0]))], [(a1, .inr (1, [.int 0, .ref a2])), (a2, .inl (dA 2, 64, .inl (fun _ => 0)))]] rfl rfl
  refine x_putF (pc := 22) (ty := .object "LineAssembler$Row") (v := .ref a1) (Ws' := [[(q, .inr (7, [.int 1, .int 0, .null, .null, .null, .ref a1, .null, .null, .null, .int 0, .int 0, .int 0, .int 0]))], [(a1, .inr (1, [.int 0, .ref a2])), (a2, .inl (dA 2, 64, .inl (fun _ => 0)))]]) C hW 0 rfl (ci := 7) rfl i_Frm tok_Frm n_Frm 5 (by decide) qc_470 rfl rfl hname rfl (by decide +kernel) rfl rfl (Nat.le_of_ble_eq_true rfl) rfl dC_Frm_init_22 (fun H locs hW => ?_)
  refine lv_aload_n (pc := 25) hx hb dC_Frm_init_25 rfl (lv_at hl 0 rfl) ?_
  refine x_newC (pc := 26) (ci := 1) (vc := (R_Row, F_Row, 2)) (fs := [.int 0, .null]) (N := 2) C hW rfl rfl i_Row tok_Row qc_460 qc_47 qc_2 def_Row (by show _ + 1 ≤ 8; omega) (by show _ + 2 ≤ 264; omega) dC_Frm_init_26 (fun a3 H hW => ?_)
  refine lv_dup (pc := 29) hx hb dC_Frm_init_29 rfl ?_
  refine x_callN (pc := 30) (n' := 3) (host := "LineAssembler") C hW (kC_Row_init l D dA z a3 ) [2, 0, 1] rfl (by decide +kernel) rfl qc_50 ex_m6 qc_49 qc_2 rfl ⟨by decide, by decide, by decide +kernel⟩ ⟨Nat.le_of_ble_eq_true rfl, Nat.le_of_ble_eq_true rfl⟩ ⟨by show _ + 1 ≤ 8; omega, by show _ + 64 ≤ 264; omega⟩ (As := []) (n := 0) rfl hl.1 rfl (Nat.le_of_ble_eq_true rfl) dC_Frm_init_30 (fun Wc' ov H locs hPo hWn => ?_)
  obtain ⟨a4, rfl, rfl⟩ := hPo
  have hW := hWn [[(q, .inr (7, [.int 1, .int 0, .null, .null, .null, .ref a1, .null, .null, .null, .int 0, .int 0, .int 0, .int 0]))], [(a1, .inr (1, [.int 0, .ref a2])), (a2, .inl (dA 2, 64, .inl (fun _ => 0)))], [(a3, .inr (1, [.int 0, .ref a4])), (a4, .inl (dA 2, 64, .inl (fun _ => 0)))]] rfl rfl
  refine x_putF (pc := 33) (ty := .object "LineAssembler$Row") (v := .ref a3) (Ws' := [[(q, .inr (7, [.int 1, .int 0, .null, .null, .null, .ref a1, .ref a3, .null, .null, .int 0, .int 0, .int 0, .int 0]))], [(a1, .inr (1, [.int 0, .ref a2])), (a2, .inl (dA 2, 64, .inl (fun _ => 0)))], [(a3, .inr (1, [.int 0, .ref a4])), (a4, .inl (dA 2, 64, .inl (fun _ => 0)))]]) C hW 0 rfl (ci := 7) rfl i_Frm tok_Frm n_Frm 6 (by decide) qc_471 rfl rfl hname rfl (by decide +kernel) rfl rfl (Nat.le_of_ble_eq_true rfl) rfl dC_Frm_init_33 (fun H locs hW => ?_)
  refine lv_aload_n (pc := 36) hx hb dC_Frm_init_36 rfl (lv_at hl 0 rfl) ?_
  refine x_newC (pc := 37) (ci := 1) (vc := (R_Row, F_Row, 2)) (fs := [.int 0, .null]) (N := 2) C hW rfl rfl i_Row tok_Row qc_460 qc_47 qc_2 def_Row (by show _ + 1 ≤ 8; omega) (by show _ + 2 ≤ 264; omega) dC_Frm_init_37 (fun a5 H hW => ?_)
  refine lv_dup (pc := 40) hx hb dC_Frm_init_40 rfl ?_
  refine x_callN (pc := 41) (n' := 4) (host := "LineAssembler") C hW (kC_Row_init l D dA z a5 ) [3, 0, 1, 2] rfl (by decide +kernel) rfl qc_50 ex_m6 qc_49 qc_2 rfl ⟨by decide, by decide, by decide +kernel⟩ ⟨Nat.le_of_ble_eq_true rfl, Nat.le_of_ble_eq_true rfl⟩ ⟨by show _ + 1 ≤ 8; omega, by show _ + 64 ≤ 264; omega⟩ (As := []) (n := 0) rfl hl.1 rfl (Nat.le_of_ble_eq_true rfl) dC_Frm_init_41 (fun Wc' ov H locs hPo hWn => ?_)
  obtain ⟨a6, rfl, rfl⟩ := hPo
  have hW := hWn [[(q, .inr (7, [.int 1, .int 0, .null, .null, .null, .ref a1, .ref a3, .null, .null, .int 0, .int 0, .int 0, .int 0]))], [(a1, .inr (1, [.int 0, .ref a2])), (a2, .inl (dA 2, 64, .inl (fun _ => 0)))], [(a3, .inr (1, [.int 0, .ref a4])), (a4, .inl (dA 2, 64, .inl (fun _ => 0)))], [(a5, .inr (1, [.int 0, .ref a6])), (a6, .inl (dA 2, 64, .inl (fun _ => 0)))]] rfl rfl
  refine x_putF (pc := 44) (ty := .object "LineAssembler$Row") (v := .ref a5) (Ws' := [[(q, .inr (7, [.int 1, .int 0, .null, .null, .null, .ref a1, .ref a3, .ref a5, .null, .int 0, .int 0, .int 0, .int 0]))], [(a1, .inr (1, [.int 0, .ref a2])), (a2, .inl (dA 2, 64, .inl (fun _ => 0)))], [(a3, .inr (1, [.int 0, .ref a4])), (a4, .inl (dA 2, 64, .inl (fun _ => 0)))], [(a5, .inr (1, [.int 0, .ref a6])), (a6, .inl (dA 2, 64, .inl (fun _ => 0)))]]) C hW 0 rfl (ci := 7) rfl i_Frm tok_Frm n_Frm 7 (by decide) qc_472 rfl rfl hname rfl (by decide +kernel) rfl rfl (Nat.le_of_ble_eq_true rfl) rfl dC_Frm_init_44 (fun H locs hW => ?_)
  refine lv_aload_n (pc := 47) hx hb dC_Frm_init_47 rfl (lv_at hl 0 rfl) ?_
  refine x_newC (pc := 48) (ci := 1) (vc := (R_Row, F_Row, 2)) (fs := [.int 0, .null]) (N := 2) C hW rfl rfl i_Row tok_Row qc_460 qc_47 qc_2 def_Row (by show _ + 1 ≤ 8; omega) (by show _ + 2 ≤ 264; omega) dC_Frm_init_48 (fun a7 H hW => ?_)
  refine lv_dup (pc := 51) hx hb dC_Frm_init_51 rfl ?_
  refine x_callN (pc := 52) (n' := 5) (host := "LineAssembler") C hW (kC_Row_init l D dA z a7 ) [4, 0, 1, 2, 3] rfl (by decide +kernel) rfl qc_50 ex_m6 qc_49 qc_2 rfl ⟨by decide, by decide, by decide +kernel⟩ ⟨Nat.le_of_ble_eq_true rfl, Nat.le_of_ble_eq_true rfl⟩ ⟨by show _ + 1 ≤ 8; omega, by show _ + 64 ≤ 264; omega⟩ (As := []) (n := 0) rfl hl.1 rfl (Nat.le_of_ble_eq_true rfl) dC_Frm_init_52 (fun Wc' ov H locs hPo hWn => ?_)
  obtain ⟨a8, rfl, rfl⟩ := hPo
  have hW := hWn [[(q, .inr (7, [.int 1, .int 0, .null, .null, .null, .ref a1, .ref a3, .ref a5, .null, .int 0, .int 0, .int 0, .int 0]))], [(a1, .inr (1, [.int 0, .ref a2])), (a2, .inl (dA 2, 64, .inl (fun _ => 0)))], [(a3, .inr (1, [.int 0, .ref a4])), (a4, .inl (dA 2, 64, .inl (fun _ => 0)))], [(a5, .inr (1, [.int 0, .ref a6])), (a6, .inl (dA 2, 64, .inl (fun _ => 0)))], [(a7, .inr (1, [.int 0, .ref a8])), (a8, .inl (dA 2, 64, .inl (fun _ => 0)))]] rfl rfl
  refine x_putF (pc := 55) (ty := .object "LineAssembler$Row") (v := .ref a7) (Ws' := [[(q, .inr (7, [.int 1, .int 0, .null, .null, .null, .ref a1, .ref a3, .ref a5, .ref a7, .int 0, .int 0, .int 0, .int 0]))], [(a1, .inr (1, [.int 0, .ref a2])), (a2, .inl (dA 2, 64, .inl (fun _ => 0)))], [(a3, .inr (1, [.int 0, .ref a4])), (a4, .inl (dA 2, 64, .inl (fun _ => 0)))], [(a5, .inr (1, [.int 0, .ref a6])), (a6, .inl (dA 2, 64, .inl (fun _ => 0)))], [(a7, .inr (1, [.int 0, .ref a8])), (a8, .inl (dA 2, 64, .inl (fun _ => 0)))]]) C hW 0 rfl (ci := 7) rfl i_Frm tok_Frm n_Frm 8 (by decide) qc_473 rfl rfl hname rfl (by decide +kernel) rfl rfl (Nat.le_of_ble_eq_true rfl) rfl dC_Frm_init_55 (fun H locs hW => ?_)
  refine lv_aload_n (pc := 58) hx hb dC_Frm_init_58 rfl (lv_at hl 0 rfl) ?_
  refine lv_iconst (pc := 59) (v := 1) hx hb dC_Frm_init_59 (by decide) ?_
  refine x_putC (pc := 60) (ty := .boolean) (v := .int 1) (Ws' := [[(q, .inr (7, [.int 1, .int 0, .null, .null, .null, .ref a1, .ref a3, .ref a5, .ref a7, .int 1, .int 0, .int 0, .int 0]))], [(a1, .inr (1, [.int 0, .ref a2])), (a2, .inl (dA 2, 64, .inl (fun _ => 0)))], [(a3, .inr (1, [.int 0, .ref a4])), (a4, .inl (dA 2, 64, .inl (fun _ => 0)))], [(a5, .inr (1, [.int 0, .ref a6])), (a6, .inl (dA 2, 64, .inl (fun _ => 0)))], [(a7, .inr (1, [.int 0, .ref a8])), (a8, .inl (dA 2, 64, .inl (fun _ => 0)))]]) C hW 0 rfl (ci := 7) rfl i_Frm tok_Frm n_Frm 9 (by decide) qc_474 rfl rfl (by decide +kernel) rfl rfl (Nat.le_of_ble_eq_true rfl) rfl dC_Frm_init_60 (fun H locs hW => ?_)
  refine lv_aload_n (pc := 63) hx hb dC_Frm_init_63 rfl (lv_at hl 0 rfl) ?_
  refine lv_iconst (pc := 64) (v := 0) hx hb dC_Frm_init_64 (by decide) ?_
  refine x_putC (pc := 65) (ty := .int) (v := .int 0) (Ws' := [[(q, .inr (7, [.int 1, .int 0, .null, .null, .null, .ref a1, .ref a3, .ref a5, .ref a7, .int 1, .int 0, .int 0, .int 0]))], [(a1, .inr (1, [.int 0, .ref a2])), (a2, .inl (dA 2, 64, .inl (fun _ => 0)))], [(a3, .inr (1, [.int 0, .ref a4])), (a4, .inl (dA 2, 64, .inl (fun _ => 0)))], [(a5, .inr (1, [.int 0, .ref a6])), (a6, .inl (dA 2, 64, .inl (fun _ => 0)))], [(a7, .inr (1, [.int 0, .ref a8])), (a8, .inl (dA 2, 64, .inl (fun _ => 0)))]]) C hW 0 rfl (ci := 7) rfl i_Frm tok_Frm n_Frm 10 (by decide) qc_475 rfl rfl (by decide +kernel) rfl rfl (Nat.le_of_ble_eq_true rfl) rfl dC_Frm_init_65 (fun H locs hW => ?_)
  refine lv_aload_n (pc := 68) hx hb dC_Frm_init_68 rfl (lv_at hl 0 rfl) ?_
  refine lv_iconst (pc := 69) (v := 0) hx hb dC_Frm_init_69 (by decide) ?_
  refine x_putC (pc := 70) (ty := .boolean) (v := .int 0) (Ws' := [[(q, .inr (7, [.int 1, .int 0, .null, .null, .null, .ref a1, .ref a3, .ref a5, .ref a7, .int 1, .int 0, .int 0, .int 0]))], [(a1, .inr (1, [.int 0, .ref a2])), (a2, .inl (dA 2, 64, .inl (fun _ => 0)))], [(a3, .inr (1, [.int 0, .ref a4])), (a4, .inl (dA 2, 64, .inl (fun _ => 0)))], [(a5, .inr (1, [.int 0, .ref a6])), (a6, .inl (dA 2, 64, .inl (fun _ => 0)))], [(a7, .inr (1, [.int 0, .ref a8])), (a8, .inl (dA 2, 64, .inl (fun _ => 0)))]]) C hW 0 rfl (ci := 7) rfl i_Frm tok_Frm n_Frm 11 (by decide) qc_476 rfl rfl (by decide +kernel) rfl rfl (Nat.le_of_ble_eq_true rfl) rfl dC_Frm_init_70 (fun H locs hW => ?_)
  refine lv_aload_n (pc := 73) hx hb dC_Frm_init_73 rfl (lv_at hl 0 rfl) ?_
  refine lv_iconst (pc := 74) (v := 0) hx hb dC_Frm_init_74 (by decide) ?_
  refine x_putC (pc := 75) (ty := .boolean) (v := .int 0) (Ws' := [[(q, .inr (7, [.int 1, .int 0, .null, .null, .null, .ref a1, .ref a3, .ref a5, .ref a7, .int 1, .int 0, .int 0, .int 0]))], [(a1, .inr (1, [.int 0, .ref a2])), (a2, .inl (dA 2, 64, .inl (fun _ => 0)))], [(a3, .inr (1, [.int 0, .ref a4])), (a4, .inl (dA 2, 64, .inl (fun _ => 0)))], [(a5, .inr (1, [.int 0, .ref a6])), (a6, .inl (dA 2, 64, .inl (fun _ => 0)))], [(a7, .inr (1, [.int 0, .ref a8])), (a8, .inl (dA 2, 64, .inl (fun _ => 0)))]]) C hW 0 rfl (ci := 7) rfl i_Frm tok_Frm n_Frm 12 (by decide) qc_477 rfl rfl (by decide +kernel) rfl rfl (Nat.le_of_ble_eq_true rfl) rfl dC_Frm_init_75 (fun H locs hW => ?_)
  refine lv_aload_n (pc := 78) hx hb dC_Frm_init_78 rfl (lv_at hl 0 rfl) ?_
  refine lv_aload_n (pc := 79) hx hb dC_Frm_init_79 rfl (lv_at hl 1 rfl) ?_
  refine x_putF (pc := 80) (ty := .object "LineAssembler$Names") (v := .ref p1) (Ws' := [[(q, .inr (7, [.int 1, .int 0, .ref p1, .null, .null, .ref a1, .ref a3, .ref a5, .ref a7, .int 1, .int 0, .int 0, .int 0]))], [(a1, .inr (1, [.int 0, .ref a2])), (a2, .inl (dA 2, 64, .inl (fun _ => 0)))], [(a3, .inr (1, [.int 0, .ref a4])), (a4, .inl (dA 2, 64, .inl (fun _ => 0)))], [(a5, .inr (1, [.int 0, .ref a6])), (a6, .inl (dA 2, 64, .inl (fun _ => 0)))], [(a7, .inr (1, [.int 0, .ref a8])), (a8, .inl (dA 2, 64, .inl (fun _ => 0)))]]) C hW 0 rfl (ci := 7) rfl i_Frm tok_Frm n_Frm 2 (by decide) qc_467 rfl rfl hname rfl (by decide +kernel) rfl rfl (Nat.le_of_ble_eq_true rfl) rfl dC_Frm_init_80 (fun H locs hW => ?_)
  refine lv_aload_n (pc := 83) hx hb dC_Frm_init_83 rfl (lv_at hl 0 rfl) ?_
  refine lv_aload_n (pc := 84) hx hb dC_Frm_init_84 rfl (lv_at hl 2 rfl) ?_
  refine x_putF (pc := 85) (ty := .object "LineAssembler$Tokens") (v := .ref p2) (Ws' := [[(q, .inr (7, [.int 1, .int 0, .ref p1, .ref p2, .null, .ref a1, .ref a3, .ref a5, .ref a7, .int 1, .int 0, .int 0, .int 0]))], [(a1, .inr (1, [.int 0, .ref a2])), (a2, .inl (dA 2, 64, .inl (fun _ => 0)))], [(a3, .inr (1, [.int 0, .ref a4])), (a4, .inl (dA 2, 64, .inl (fun _ => 0)))], [(a5, .inr (1, [.int 0, .ref a6])), (a6, .inl (dA 2, 64, .inl (fun _ => 0)))], [(a7, .inr (1, [.int 0, .ref a8])), (a8, .inl (dA 2, 64, .inl (fun _ => 0)))]]) C hW 0 rfl (ci := 7) rfl i_Frm tok_Frm n_Frm 3 (by decide) qc_468 rfl rfl hname rfl (by decide +kernel) rfl rfl (Nat.le_of_ble_eq_true rfl) rfl dC_Frm_init_85 (fun H locs hW => ?_)
  refine lv_aload_n (pc := 88) hx hb dC_Frm_init_88 rfl (lv_at hl 0 rfl) ?_
  refine lv_aload_n (pc := 89) hx hb dC_Frm_init_89 rfl (lv_at hl 3 rfl) ?_
  refine x_putF (pc := 90) (ty := .object "LineAssembler$Program") (v := .ref p3) (Ws' := [[(q, .inr (7, [.int 1, .int 0, .ref p1, .ref p2, .ref p3, .ref a1, .ref a3, .ref a5, .ref a7, .int 1, .int 0, .int 0, .int 0]))], [(a1, .inr (1, [.int 0, .ref a2])), (a2, .inl (dA 2, 64, .inl (fun _ => 0)))], [(a3, .inr (1, [.int 0, .ref a4])), (a4, .inl (dA 2, 64, .inl (fun _ => 0)))], [(a5, .inr (1, [.int 0, .ref a6])), (a6, .inl (dA 2, 64, .inl (fun _ => 0)))], [(a7, .inr (1, [.int 0, .ref a8])), (a8, .inl (dA 2, 64, .inl (fun _ => 0)))]]) C hW 0 rfl (ci := 7) rfl i_Frm tok_Frm n_Frm 4 (by decide) qc_469 rfl rfl hname rfl (by decide +kernel) rfl rfl (Nat.le_of_ble_eq_true rfl) rfl dC_Frm_init_90 (fun H locs hW => ?_)
  have hW := hW.eqf (Ws' := [[(q, .inr (7, [.int 1, .int 0, .ref p1, .ref p2, .ref p3, .ref a1, .ref a3, .ref a5, .ref a7, .int 1, .int 0, .int 0, .int 0])), (a1, .inr (1, [.int 0, .ref a2])), (a2, .inl (dA 2, 64, .inl (fun _ => 0))), (a3, .inr (1, [.int 0, .ref a4])), (a4, .inl (dA 2, 64, .inl (fun _ => 0))), (a5, .inr (1, [.int 0, .ref a6])), (a6, .inl (dA 2, 64, .inl (fun _ => 0))), (a7, .inr (1, [.int 0, .ref a8])), (a8, .inl (dA 2, 64, .inl (fun _ => 0)))]]) rfl
  exact x_retCv (pc := 93) C rfl hW ⟨a1, a2, a3, a4, a5, a6, a7, a8, rfl, rfl⟩ (by show _ ≤ 8; omega) (by show _ ≤ 264; omega) dC_Frm_init_93
abbrev cC_Lex_init : ByteArray := prog_6_method_1_code
def yC_Lex_init : MethodName := ⟨R_Lex, "<init>", "(LLineAssembler$Row;LLineAssembler$Names;LLineAssembler$Tokens;LLineAssembler$Row;)V"⟩
theorem dC_Lex_init_0 : decode cC_Lex_init 0 = .ok (.aload_n 0, 1) := by decide +kernel
theorem dC_Lex_init_1 : decode cC_Lex_init 1 = .ok (.invokespecial 3, 3) := by decide +kernel
theorem dC_Lex_init_4 : decode cC_Lex_init 4 = .ok (.aload_n 0, 1) := by decide +kernel
theorem dC_Lex_init_5 : decode cC_Lex_init 5 = .ok (.iconst (0), 1) := by decide +kernel
theorem dC_Lex_init_6 : decode cC_Lex_init 6 = .ok (.putfield 9, 3) := by decide +kernel
theorem dC_Lex_init_9 : decode cC_Lex_init 9 = .ok (.aload_n 0, 1) := by decide +kernel
theorem dC_Lex_init_10 : decode cC_Lex_init 10 = .ok (.aload_n 1, 1) := by decide +kernel
theorem dC_Lex_init_11 : decode cC_Lex_init 11 = .ok (.putfield 15, 3) := by decide +kernel
theorem dC_Lex_init_14 : decode cC_Lex_init 14 = .ok (.aload_n 0, 1) := by decide +kernel
theorem dC_Lex_init_15 : decode cC_Lex_init 15 = .ok (.aload_n 2, 1) := by decide +kernel
theorem dC_Lex_init_16 : decode cC_Lex_init 16 = .ok (.putfield 19, 3) := by decide +kernel
theorem dC_Lex_init_19 : decode cC_Lex_init 19 = .ok (.aload_n 0, 1) := by decide +kernel
theorem dC_Lex_init_20 : decode cC_Lex_init 20 = .ok (.aload_n 3, 1) := by decide +kernel
theorem dC_Lex_init_21 : decode cC_Lex_init 21 = .ok (.putfield 23, 3) := by decide +kernel
theorem dC_Lex_init_24 : decode cC_Lex_init 24 = .ok (.aload_n 0, 1) := by decide +kernel
theorem dC_Lex_init_25 : decode cC_Lex_init 25 = .ok (.aload 4, 2) := by decide +kernel
theorem dC_Lex_init_27 : decode cC_Lex_init 27 = .ok (.putfield 27, 3) := by decide +kernel
theorem dC_Lex_init_30 : decode cC_Lex_init 30 = .ok (.return_, 1) := by decide +kernel
set_option maxHeartbeats 4000000 in
set_option maxRecDepth 100000 in
theorem kC_Lex_init (l : Launch) (D : va_G) (dA : Nat → ClassId) (z : Nat → Nat) (q : Nat) (p1 : Nat) (p2 : Nat) (p3 : Nat) (p4 : Nat) : KC l D dA z yC_Lex_init cC_Lex_init 5 none 1 40 0 0 [[(q, .inr (6, [.null, .null, .null, .null, .int 0]))]] [.ref q, .ref p1, .ref p2, .ref p3, .ref p4] (fun Ws' ov => Ws' = [[(q, .inr (6, [.ref p1, .ref p2, .ref p3, .ref p4, .int 0]))]] ∧ ov = none) := by
  refine x_enterC (by decide +kernel) (Nat.le_of_ble_eq_true rfl) (fun p e s m args below meth c A C hname hW ls hl => ?_)
  have hx := C.1.1
  have hb := C.1.2.1
  have hown := C.1.2.2.2.2.1
  have hT := C.1.2.2.2.2.2.1
  have hl : lv_has ls 5 [(0, .ref q), (1, .ref p1), (2, .ref p2), (3, .ref p3), (4, .ref p4)] := hl
  refine lv_aload_n (pc := 0) hx hb dC_Lex_init_0 rfl (lv_at hl 0 rfl) ?_
  refine x_objI (pc := 1) C qc_437 qc_44 qc_45 hl.1 dC_Lex_init_1 (Nat.le_of_ble_eq_true rfl) (Nat.le_of_ble_eq_true rfl) ?_
  refine lv_aload_n (pc := 4) hx hb dC_Lex_init_4 rfl (lv_at hl 0 rfl) ?_
  refine lv_iconst (pc := 5) (v := 0) hx hb dC_Lex_init_5 (by decide) ?_
  refine x_putC (pc := 6) (ty := .int) (v := .int 0) (Ws' := [[(q, .inr (6, [.null, .null, .null, .null, .int 0]))]]) C hW 0 rfl (ci := 6) rfl i_Lex tok_Lex n_Lex 4 (by decide) qc_442 rfl rfl (by decide +kernel) rfl rfl (Nat.le_of_ble_eq_true rfl) rfl dC_Lex_init_6 (fun H locs hW => ?_)
  refine lv_aload_n (pc := 9) hx hb dC_Lex_init_9 rfl (lv_at hl 0 rfl) ?_
  refine lv_aload_n (pc := 10) hx hb dC_Lex_init_10 rfl (lv_at hl 1 rfl) ?_
  refine x_putF (pc := 11) (ty := .object "LineAssembler$Row") (v := .ref p1) (Ws' := [[(q, .inr (6, [.ref p1, .null, .null, .null, .int 0]))]]) C hW 0 rfl (ci := 6) rfl i_Lex tok_Lex n_Lex 0 (by decide) qc_438 rfl rfl hname rfl (by decide +kernel) rfl rfl (Nat.le_of_ble_eq_true rfl) rfl dC_Lex_init_11 (fun H locs hW => ?_)
  refine lv_aload_n (pc := 14) hx hb dC_Lex_init_14 rfl (lv_at hl 0 rfl) ?_
  refine lv_aload_n (pc := 15) hx hb dC_Lex_init_15 rfl (lv_at hl 2 rfl) ?_
  refine x_putF (pc := 16) (ty := .object "LineAssembler$Names") (v := .ref p2) (Ws' := [[(q, .inr (6, [.ref p1, .ref p2, .null, .null, .int 0]))]]) C hW 0 rfl (ci := 6) rfl i_Lex tok_Lex n_Lex 1 (by decide) qc_439 rfl rfl hname rfl (by decide +kernel) rfl rfl (Nat.le_of_ble_eq_true rfl) rfl dC_Lex_init_16 (fun H locs hW => ?_)
  refine lv_aload_n (pc := 19) hx hb dC_Lex_init_19 rfl (lv_at hl 0 rfl) ?_
  refine lv_aload_n (pc := 20) hx hb dC_Lex_init_20 rfl (lv_at hl 3 rfl) ?_
  refine x_putF (pc := 21) (ty := .object "LineAssembler$Tokens") (v := .ref p3) (Ws' := [[(q, .inr (6, [.ref p1, .ref p2, .ref p3, .null, .int 0]))]]) C hW 0 rfl (ci := 6) rfl i_Lex tok_Lex n_Lex 2 (by decide) qc_440 rfl rfl hname rfl (by decide +kernel) rfl rfl (Nat.le_of_ble_eq_true rfl) rfl dC_Lex_init_21 (fun H locs hW => ?_)
  refine lv_aload_n (pc := 24) hx hb dC_Lex_init_24 rfl (lv_at hl 0 rfl) ?_
  refine lv_aload (pc := 25) hx hb dC_Lex_init_25 (lv_at hl 4 rfl) ?_
  refine x_putF (pc := 27) (ty := .object "LineAssembler$Row") (v := .ref p4) (Ws' := [[(q, .inr (6, [.ref p1, .ref p2, .ref p3, .ref p4, .int 0]))]]) C hW 0 rfl (ci := 6) rfl i_Lex tok_Lex n_Lex 3 (by decide) qc_441 rfl rfl hname rfl (by decide +kernel) rfl rfl (Nat.le_of_ble_eq_true rfl) rfl dC_Lex_init_27 (fun H locs hW => ?_)
  have hW := hW.eqf (Ws' := [[(q, .inr (6, [.ref p1, .ref p2, .ref p3, .ref p4, .int 0]))]]) rfl
  exact x_retCv (pc := 30) C rfl hW ⟨rfl, rfl⟩ (by show _ ≤ 0; omega) (by show _ ≤ 0; omega) dC_Lex_init_30
abbrev cC_Par_init : ByteArray := prog_9_method_1_code
def yC_Par_init : MethodName := ⟨R_Par, "<init>", "(LLineAssembler$Names;LLineAssembler$Tokens;LLineAssembler$Program;LLineAssembler$Formulas;)V"⟩
theorem dC_Par_init_0 : decode cC_Par_init 0 = .ok (.aload_n 0, 1) := by decide +kernel
theorem dC_Par_init_1 : decode cC_Par_init 1 = .ok (.invokespecial 3, 3) := by decide +kernel
theorem dC_Par_init_4 : decode cC_Par_init 4 = .ok (.aload_n 0, 1) := by decide +kernel
theorem dC_Par_init_5 : decode cC_Par_init 5 = .ok (.aload_n 1, 1) := by decide +kernel
theorem dC_Par_init_6 : decode cC_Par_init 6 = .ok (.putfield 9, 3) := by decide +kernel
theorem dC_Par_init_9 : decode cC_Par_init 9 = .ok (.aload_n 0, 1) := by decide +kernel
theorem dC_Par_init_10 : decode cC_Par_init 10 = .ok (.aload_n 2, 1) := by decide +kernel
theorem dC_Par_init_11 : decode cC_Par_init 11 = .ok (.putfield 15, 3) := by decide +kernel
theorem dC_Par_init_14 : decode cC_Par_init 14 = .ok (.aload_n 0, 1) := by decide +kernel
theorem dC_Par_init_15 : decode cC_Par_init 15 = .ok (.aload_n 3, 1) := by decide +kernel
theorem dC_Par_init_16 : decode cC_Par_init 16 = .ok (.putfield 19, 3) := by decide +kernel
theorem dC_Par_init_19 : decode cC_Par_init 19 = .ok (.aload_n 0, 1) := by decide +kernel
theorem dC_Par_init_20 : decode cC_Par_init 20 = .ok (.aload 4, 2) := by decide +kernel
theorem dC_Par_init_22 : decode cC_Par_init 22 = .ok (.putfield 23, 3) := by decide +kernel
theorem dC_Par_init_25 : decode cC_Par_init 25 = .ok (.return_, 1) := by decide +kernel
set_option maxHeartbeats 4000000 in
set_option maxRecDepth 100000 in
theorem kC_Par_init (l : Launch) (D : va_G) (dA : Nat → ClassId) (z : Nat → Nat) (q : Nat) (p1 : Nat) (p2 : Nat) (p3 : Nat) (p4 : Nat) : KC l D dA z yC_Par_init cC_Par_init 5 none 1 40 0 0 [[(q, .inr (8, [.null, .null, .null, .null]))]] [.ref q, .ref p1, .ref p2, .ref p3, .ref p4] (fun Ws' ov => Ws' = [[(q, .inr (8, [.ref p1, .ref p2, .ref p3, .ref p4]))]] ∧ ov = none) := by
  refine x_enterC (by decide +kernel) (Nat.le_of_ble_eq_true rfl) (fun p e s m args below meth c A C hname hW ls hl => ?_)
  have hx := C.1.1
  have hb := C.1.2.1
  have hown := C.1.2.2.2.2.1
  have hT := C.1.2.2.2.2.2.1
  have hl : lv_has ls 5 [(0, .ref q), (1, .ref p1), (2, .ref p2), (3, .ref p3), (4, .ref p4)] := hl
  refine lv_aload_n (pc := 0) hx hb dC_Par_init_0 rfl (lv_at hl 0 rfl) ?_
  refine x_objI (pc := 1) C qc_510 qc_44 qc_45 hl.1 dC_Par_init_1 (Nat.le_of_ble_eq_true rfl) (Nat.le_of_ble_eq_true rfl) ?_
  refine lv_aload_n (pc := 4) hx hb dC_Par_init_4 rfl (lv_at hl 0 rfl) ?_
  refine lv_aload_n (pc := 5) hx hb dC_Par_init_5 rfl (lv_at hl 1 rfl) ?_
  refine x_putF (pc := 6) (ty := .object "LineAssembler$Names") (v := .ref p1) (Ws' := [[(q, .inr (8, [.ref p1, .null, .null, .null]))]]) C hW 0 rfl (ci := 8) rfl i_Par tok_Par n_Par 0 (by decide) qc_511 rfl rfl hname rfl (by decide +kernel) rfl rfl (Nat.le_of_ble_eq_true rfl) rfl dC_Par_init_6 (fun H locs hW => ?_)
  refine lv_aload_n (pc := 9) hx hb dC_Par_init_9 rfl (lv_at hl 0 rfl) ?_
  refine lv_aload_n (pc := 10) hx hb dC_Par_init_10 rfl (lv_at hl 2 rfl) ?_
  refine x_putF (pc := 11) (ty := .object "LineAssembler$Tokens") (v := .ref p2) (Ws' := [[(q, .inr (8, [.ref p1, .ref p2, .null, .null]))]]) C hW 0 rfl (ci := 8) rfl i_Par tok_Par n_Par 1 (by decide) qc_512 rfl rfl hname rfl (by decide +kernel) rfl rfl (Nat.le_of_ble_eq_true rfl) rfl dC_Par_init_11 (fun H locs hW => ?_)
  refine lv_aload_n (pc := 14) hx hb dC_Par_init_14 rfl (lv_at hl 0 rfl) ?_
  refine lv_aload_n (pc := 15) hx hb dC_Par_init_15 rfl (lv_at hl 3 rfl) ?_
  refine x_putF (pc := 16) (ty := .object "LineAssembler$Program") (v := .ref p3) (Ws' := [[(q, .inr (8, [.ref p1, .ref p2, .ref p3, .null]))]]) C hW 0 rfl (ci := 8) rfl i_Par tok_Par n_Par 2 (by decide) qc_513 rfl rfl hname rfl (by decide +kernel) rfl rfl (Nat.le_of_ble_eq_true rfl) rfl dC_Par_init_16 (fun H locs hW => ?_)
  refine lv_aload_n (pc := 19) hx hb dC_Par_init_19 rfl (lv_at hl 0 rfl) ?_
  refine lv_aload (pc := 20) hx hb dC_Par_init_20 (lv_at hl 4 rfl) ?_
  refine x_putF (pc := 22) (ty := .object "LineAssembler$Formulas") (v := .ref p4) (Ws' := [[(q, .inr (8, [.ref p1, .ref p2, .ref p3, .ref p4]))]]) C hW 0 rfl (ci := 8) rfl i_Par tok_Par n_Par 3 (by decide) qc_514 rfl rfl hname rfl (by decide +kernel) rfl rfl (Nat.le_of_ble_eq_true rfl) rfl dC_Par_init_22 (fun H locs hW => ?_)
  have hW := hW.eqf (Ws' := [[(q, .inr (8, [.ref p1, .ref p2, .ref p3, .ref p4]))]]) rfl
  exact x_retCv (pc := 25) C rfl hW ⟨rfl, rfl⟩ (by show _ ≤ 0; omega) (by show _ ≤ 0; omega) dC_Par_init_25
abbrev cC_Enc_init : ByteArray := prog_2_method_1_code
def yC_Enc_init : MethodName := ⟨R_Enc, "<init>", "(LLineAssembler$Program;LLineAssembler$Formulas;LLineAssembler$Row;)V"⟩
theorem dC_Enc_init_0 : decode cC_Enc_init 0 = .ok (.aload_n 0, 1) := by decide +kernel
theorem dC_Enc_init_1 : decode cC_Enc_init 1 = .ok (.invokespecial 3, 3) := by decide +kernel
theorem dC_Enc_init_4 : decode cC_Enc_init 4 = .ok (.aload_n 0, 1) := by decide +kernel
theorem dC_Enc_init_5 : decode cC_Enc_init 5 = .ok (.new 9, 3) := by decide +kernel
theorem dC_Enc_init_8 : decode cC_Enc_init 8 = .ok (.dup, 1) := by decide +kernel
theorem dC_Enc_init_9 : decode cC_Enc_init 9 = .ok (.invokespecial 11, 3) := by decide +kernel
theorem dC_Enc_init_12 : decode cC_Enc_init 12 = .ok (.putfield 12, 3) := by decide +kernel
theorem dC_Enc_init_15 : decode cC_Enc_init 15 = .ok (.aload_n 0, 1) := by decide +kernel
theorem dC_Enc_init_16 : decode cC_Enc_init 16 = .ok (.new 9, 3) := by decide +kernel
theorem dC_Enc_init_19 : decode cC_Enc_init 19 = .ok (.dup, 1) := by decide +kernel
theorem dC_Enc_init_20 : decode cC_Enc_init 20 = .ok (.invokespecial 11, 3) := by decide +kernel
theorem dC_Enc_init_23 : decode cC_Enc_init 23 = .ok (.putfield 18, 3) := by decide +kernel
theorem dC_Enc_init_26 : decode cC_Enc_init 26 = .ok (.aload_n 0, 1) := by decide +kernel
theorem dC_Enc_init_27 : decode cC_Enc_init 27 = .ok (.iconst (0), 1) := by decide +kernel
theorem dC_Enc_init_28 : decode cC_Enc_init 28 = .ok (.putfield 21, 3) := by decide +kernel
theorem dC_Enc_init_31 : decode cC_Enc_init 31 = .ok (.aload_n 0, 1) := by decide +kernel
theorem dC_Enc_init_32 : decode cC_Enc_init 32 = .ok (.aload_n 1, 1) := by decide +kernel
theorem dC_Enc_init_33 : decode cC_Enc_init 33 = .ok (.putfield 25, 3) := by decide +kernel
theorem dC_Enc_init_36 : decode cC_Enc_init 36 = .ok (.aload_n 0, 1) := by decide +kernel
theorem dC_Enc_init_37 : decode cC_Enc_init 37 = .ok (.aload_n 2, 1) := by decide +kernel
theorem dC_Enc_init_38 : decode cC_Enc_init 38 = .ok (.putfield 29, 3) := by decide +kernel
theorem dC_Enc_init_41 : decode cC_Enc_init 41 = .ok (.aload_n 0, 1) := by decide +kernel
theorem dC_Enc_init_42 : decode cC_Enc_init 42 = .ok (.aload_n 3, 1) := by decide +kernel
theorem dC_Enc_init_43 : decode cC_Enc_init 43 = .ok (.putfield 33, 3) := by decide +kernel
theorem dC_Enc_init_46 : decode cC_Enc_init 46 = .ok (.return_, 1) := by decide +kernel
set_option maxHeartbeats 4000000 in
set_option maxRecDepth 100000 in
theorem kC_Enc_init (l : Launch) (D : va_G) (dA : Nat → ClassId) (z : Nat → Nat) (q : Nat) (p1 : Nat) (p2 : Nat) (p3 : Nat) : KC l D dA z yC_Enc_init cC_Enc_init 4 none 2 60 4 132 [[(q, .inr (9, [.null, .null, .int 0, .null, .null, .null]))]] [.ref q, .ref p1, .ref p2, .ref p3] (fun Ws' ov => ∃ a1 a2 a3 a4 : Nat, Ws' = [[(q, .inr (9, [.ref a1, .ref a3, .int 0, .ref p1, .ref p2, .ref p3])), (a1, .inr (1, [.int 0, .ref a2])), (a2, .inl (dA 2, 64, .inl (fun _ => 0))), (a3, .inr (1, [.int 0, .ref a4])), (a4, .inl (dA 2, 64, .inl (fun _ => 0)))]] ∧ ov = none) := by
  refine x_enterC (by decide +kernel) (Nat.le_of_ble_eq_true rfl) (fun p e s m args below meth c A C hname hW ls hl => ?_)
  have hx := C.1.1
  have hb := C.1.2.1
  have hown := C.1.2.2.2.2.1
  have hT := C.1.2.2.2.2.2.1
  have hl : lv_has ls 4 [(0, .ref q), (1, .ref p1), (2, .ref p2), (3, .ref p3)] := hl
  refine lv_aload_n (pc := 0) hx hb dC_Enc_init_0 rfl (lv_at hl 0 rfl) ?_
  refine x_objI (pc := 1) C qc_529 qc_44 qc_45 hl.1 dC_Enc_init_1 (Nat.le_of_ble_eq_true rfl) (Nat.le_of_ble_eq_true rfl) ?_
  refine lv_aload_n (pc := 4) hx hb dC_Enc_init_4 rfl (lv_at hl 0 rfl) ?_
  refine x_newC (pc := 5) (ci := 1) (vc := (R_Row, F_Row, 2)) (fs := [.int 0, .null]) (N := 2) C hW rfl rfl i_Row tok_Row qc_530 qc_47 qc_2 def_Row (by show _ + 1 ≤ 4; omega) (by show _ + 2 ≤ 132; omega) dC_Enc_init_5 (fun a1 H hW => ?_)
  refine lv_dup (pc := 8) hx hb dC_Enc_init_8 rfl ?_
  refine x_callN (pc := 9) (n' := 2) (host := "LineAssembler") C hW (kC_Row_init l D dA z a1 ) [1, 0] rfl (by decide +kernel) rfl qc_50 ex_m7 qc_49 qc_2 rfl ⟨by decide, by decide, by decide +kernel⟩ ⟨Nat.le_of_ble_eq_true rfl, Nat.le_of_ble_eq_true rfl⟩ ⟨by show _ + 1 ≤ 4; omega, by show _ + 64 ≤ 132; omega⟩ (As := []) (n := 0) rfl hl.1 rfl (Nat.le_of_ble_eq_true rfl) dC_Enc_init_9 (fun Wc' ov H locs hPo hWn => ?_)
  obtain ⟨a2, rfl, rfl⟩ := hPo
  have hW := hWn [[(q, .inr (9, [.null, .null, .int 0, .null, .null, .null]))], [(a1, .inr (1, [.int 0, .ref a2])), (a2, .inl (dA 2, 64, .inl (fun _ => 0)))]] rfl rfl
  refine x_putF (pc := 12) (ty := .object "LineAssembler$Row") (v := .ref a1) (Ws' := [[(q, .inr (9, [.ref a1, .null, .int 0, .null, .null, .null]))], [(a1, .inr (1, [.int 0, .ref a2])), (a2, .inl (dA 2, 64, .inl (fun _ => 0)))]]) C hW 0 rfl (ci := 9) rfl i_Enc tok_Enc n_Enc 0 (by decide) qc_532 rfl rfl hname rfl (by decide +kernel) rfl rfl (Nat.le_of_ble_eq_true rfl) rfl dC_Enc_init_12 (fun H locs hW => ?_)
  refine lv_aload_n (pc := 15) hx hb dC_Enc_init_15 rfl (lv_at hl 0 rfl) ?_
  refine x_newC (pc := 16) (ci := 1) (vc := (R_Row, F_Row, 2)) (fs := [.int 0, .null]) (N := 2) C hW rfl rfl i_Row tok_Row qc_530 qc_47 qc_2 def_Row (by show _ + 1 ≤ 4; omega) (by show _ + 2 ≤ 132; omega) dC_Enc_init_16 (fun a3 H hW => ?_)
  refine lv_dup (pc := 19) hx hb dC_Enc_init_19 rfl ?_
  refine x_callN (pc := 20) (n' := 3) (host := "LineAssembler") C hW (kC_Row_init l D dA z a3 ) [2, 0, 1] rfl (by decide +kernel) rfl qc_50 ex_m7 qc_49 qc_2 rfl ⟨by decide, by decide, by decide +kernel⟩ ⟨Nat.le_of_ble_eq_true rfl, Nat.le_of_ble_eq_true rfl⟩ ⟨by show _ + 1 ≤ 4; omega, by show _ + 64 ≤ 132; omega⟩ (As := []) (n := 0) rfl hl.1 rfl (Nat.le_of_ble_eq_true rfl) dC_Enc_init_20 (fun Wc' ov H locs hPo hWn => ?_)
  obtain ⟨a4, rfl, rfl⟩ := hPo
  have hW := hWn [[(q, .inr (9, [.ref a1, .null, .int 0, .null, .null, .null]))], [(a1, .inr (1, [.int 0, .ref a2])), (a2, .inl (dA 2, 64, .inl (fun _ => 0)))], [(a3, .inr (1, [.int 0, .ref a4])), (a4, .inl (dA 2, 64, .inl (fun _ => 0)))]] rfl rfl
  refine x_putF (pc := 23) (ty := .object "LineAssembler$Row") (v := .ref a3) (Ws' := [[(q, .inr (9, [.ref a1, .ref a3, .int 0, .null, .null, .null]))], [(a1, .inr (1, [.int 0, .ref a2])), (a2, .inl (dA 2, 64, .inl (fun _ => 0)))], [(a3, .inr (1, [.int 0, .ref a4])), (a4, .inl (dA 2, 64, .inl (fun _ => 0)))]]) C hW 0 rfl (ci := 9) rfl i_Enc tok_Enc n_Enc 1 (by decide) qc_534 rfl rfl hname rfl (by decide +kernel) rfl rfl (Nat.le_of_ble_eq_true rfl) rfl dC_Enc_init_23 (fun H locs hW => ?_)
  refine lv_aload_n (pc := 26) hx hb dC_Enc_init_26 rfl (lv_at hl 0 rfl) ?_
  refine lv_iconst (pc := 27) (v := 0) hx hb dC_Enc_init_27 (by decide) ?_
  refine x_putC (pc := 28) (ty := .int) (v := .int 0) (Ws' := [[(q, .inr (9, [.ref a1, .ref a3, .int 0, .null, .null, .null]))], [(a1, .inr (1, [.int 0, .ref a2])), (a2, .inl (dA 2, 64, .inl (fun _ => 0)))], [(a3, .inr (1, [.int 0, .ref a4])), (a4, .inl (dA 2, 64, .inl (fun _ => 0)))]]) C hW 0 rfl (ci := 9) rfl i_Enc tok_Enc n_Enc 2 (by decide) qc_536 rfl rfl (by decide +kernel) rfl rfl (Nat.le_of_ble_eq_true rfl) rfl dC_Enc_init_28 (fun H locs hW => ?_)
  refine lv_aload_n (pc := 31) hx hb dC_Enc_init_31 rfl (lv_at hl 0 rfl) ?_
  refine lv_aload_n (pc := 32) hx hb dC_Enc_init_32 rfl (lv_at hl 1 rfl) ?_
  refine x_putF (pc := 33) (ty := .object "LineAssembler$Program") (v := .ref p1) (Ws' := [[(q, .inr (9, [.ref a1, .ref a3, .int 0, .ref p1, .null, .null]))], [(a1, .inr (1, [.int 0, .ref a2])), (a2, .inl (dA 2, 64, .inl (fun _ => 0)))], [(a3, .inr (1, [.int 0, .ref a4])), (a4, .inl (dA 2, 64, .inl (fun _ => 0)))]]) C hW 0 rfl (ci := 9) rfl i_Enc tok_Enc n_Enc 3 (by decide) qc_538 rfl rfl hname rfl (by decide +kernel) rfl rfl (Nat.le_of_ble_eq_true rfl) rfl dC_Enc_init_33 (fun H locs hW => ?_)
  refine lv_aload_n (pc := 36) hx hb dC_Enc_init_36 rfl (lv_at hl 0 rfl) ?_
  refine lv_aload_n (pc := 37) hx hb dC_Enc_init_37 rfl (lv_at hl 2 rfl) ?_
  refine x_putF (pc := 38) (ty := .object "LineAssembler$Formulas") (v := .ref p2) (Ws' := [[(q, .inr (9, [.ref a1, .ref a3, .int 0, .ref p1, .ref p2, .null]))], [(a1, .inr (1, [.int 0, .ref a2])), (a2, .inl (dA 2, 64, .inl (fun _ => 0)))], [(a3, .inr (1, [.int 0, .ref a4])), (a4, .inl (dA 2, 64, .inl (fun _ => 0)))]]) C hW 0 rfl (ci := 9) rfl i_Enc tok_Enc n_Enc 4 (by decide) qc_539 rfl rfl hname rfl (by decide +kernel) rfl rfl (Nat.le_of_ble_eq_true rfl) rfl dC_Enc_init_38 (fun H locs hW => ?_)
  refine lv_aload_n (pc := 41) hx hb dC_Enc_init_41 rfl (lv_at hl 0 rfl) ?_
  refine lv_aload_n (pc := 42) hx hb dC_Enc_init_42 rfl (lv_at hl 3 rfl) ?_
  refine x_putF (pc := 43) (ty := .object "LineAssembler$Row") (v := .ref p3) (Ws' := [[(q, .inr (9, [.ref a1, .ref a3, .int 0, .ref p1, .ref p2, .ref p3]))], [(a1, .inr (1, [.int 0, .ref a2])), (a2, .inl (dA 2, 64, .inl (fun _ => 0)))], [(a3, .inr (1, [.int 0, .ref a4])), (a4, .inl (dA 2, 64, .inl (fun _ => 0)))]]) C hW 0 rfl (ci := 9) rfl i_Enc tok_Enc n_Enc 5 (by decide) qc_540 rfl rfl hname rfl (by decide +kernel) rfl rfl (Nat.le_of_ble_eq_true rfl) rfl dC_Enc_init_43 (fun H locs hW => ?_)
  have hW := hW.eqf (Ws' := [[(q, .inr (9, [.ref a1, .ref a3, .int 0, .ref p1, .ref p2, .ref p3])), (a1, .inr (1, [.int 0, .ref a2])), (a2, .inl (dA 2, 64, .inl (fun _ => 0))), (a3, .inr (1, [.int 0, .ref a4])), (a4, .inl (dA 2, 64, .inl (fun _ => 0)))]]) rfl
  exact x_retCv (pc := 46) C rfl hW ⟨a1, a2, a3, a4, rfl, rfl⟩ (by show _ ≤ 4; omega) (by show _ ≤ 132; omega) dC_Enc_init_46
