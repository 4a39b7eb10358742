theorem qc_44 : (Jvm.Cond.instanceMethod ({ cls := "java/lang/Object", name := "<init>", desc := "()V" } : Jvm.MethodName)) ∈ lw_gd := uc_0 (List.mem_of_getElem? (i := 44) (by decide +kernel)) (by decide +kernel)
theorem qc_45 : (Jvm.Cond.code ({ cls := "java/lang/Object", name := "<init>", desc := "()V" } : Jvm.MethodName) object_method_1_code (1 : Nat) (Option.none : Option Jvm.ClassFile.FieldType)) ∈ lw_gd := uc_0 (List.mem_of_getElem? (i := 45) (by decide +kernel)) (by decide +kernel)
theorem qc_335 : (Jvm.Cond.methodLink "LineAssembler$Item" (3 : Nat) ({ cls := "java/lang/Object", name := "<init>", desc := "()V" } : Jvm.MethodName)) ∈ lw_gd := uc_1 (List.mem_of_getElem? (i := 95) (by decide +kernel)) (by decide +kernel)
theorem qc_336 : (Jvm.Cond.fieldLink "LineAssembler$Item" (9 : Nat) "LineAssembler$Item" "lineNumber" "I") ∈ lw_gd := uc_1 (List.mem_of_getElem? (i := 96) (by decide +kernel)) (by decide +kernel)
theorem qc_339 : (Jvm.Cond.fieldLink "LineAssembler$Item" (15 : Nat) "LineAssembler$Item" "inData" "Z") ∈ lw_gd := uc_1 (List.mem_of_getElem? (i := 99) (by decide +kernel)) (by decide +kernel)
theorem qc_341 : (Jvm.Cond.fieldLink "LineAssembler$Item" (19 : Nat) "LineAssembler$Item" "mark" "I") ∈ lw_gd := uc_1 (List.mem_of_getElem? (i := 101) (by decide +kernel)) (by decide +kernel)
theorem qc_344 : (Jvm.Cond.fieldLink "LineAssembler$Item" (22 : Nat) "LineAssembler$Item" "word" "I") ∈ lw_gd := uc_1 (List.mem_of_getElem? (i := 104) (by decide +kernel)) (by decide +kernel)
theorem qc_349 : (Jvm.Cond.fieldLink "LineAssembler$Item" (25 : Nat) "LineAssembler$Item" "length" "I") ∈ lw_gd := uc_1 (List.mem_of_getElem? (i := 109) (by decide +kernel)) (by decide +kernel)
theorem qc_352 : (Jvm.Cond.fieldLink "LineAssembler$Item" (28 : Nat) "LineAssembler$Item" "offset" "I") ∈ lw_gd := uc_1 (List.mem_of_getElem? (i := 112) (by decide +kernel)) (by decide +kernel)
theorem qc_354 : (Jvm.Cond.fieldLink "LineAssembler$Item" (31 : Nat) "LineAssembler$Item" "head" "I") ∈ lw_gd := uc_1 (List.mem_of_getElem? (i := 114) (by decide +kernel)) (by decide +kernel)
theorem qc_357 : (Jvm.Cond.fieldLink "LineAssembler$Item" (34 : Nat) "LineAssembler$Item" "from" "I") ∈ lw_gd := uc_1 (List.mem_of_getElem? (i := 117) (by decide +kernel)) (by decide +kernel)
theorem qc_361 : (Jvm.Cond.fieldLink "LineAssembler$Item" (37 : Nat) "LineAssembler$Item" "to" "I") ∈ lw_gd := uc_1 (List.mem_of_getElem? (i := 121) (by decide +kernel)) (by decide +kernel)
abbrev cC_Itm_init : ByteArray := prog_5_method_1_code
def yC_Itm_init : MethodName := ⟨R_Itm, "<init>", "()V"⟩
theorem dC_Itm_init_0 : decode cC_Itm_init 0 = .ok (.aload_n 0, 1) := by decide +kernel
theorem dC_Itm_init_1 : decode cC_Itm_init 1 = .ok (.invokespecial 3, 3) := by decide +kernel
theorem dC_Itm_init_4 : decode cC_Itm_init 4 = .ok (.aload_n 0, 1) := by decide +kernel
theorem dC_Itm_init_5 : decode cC_Itm_init 5 = .ok (.iconst (0), 1) := by decide +kernel
theorem dC_Itm_init_6 : decode cC_Itm_init 6 = .ok (.putfield 9, 3) := by decide +kernel
theorem dC_Itm_init_9 : decode cC_Itm_init 9 = .ok (.aload_n 0, 1) := by decide +kernel
theorem dC_Itm_init_10 : decode cC_Itm_init 10 = .ok (.iconst (0), 1) := by decide +kernel
theorem dC_Itm_init_11 : decode cC_Itm_init 11 = .ok (.putfield 15, 3) := by decide +kernel
theorem dC_Itm_init_14 : decode cC_Itm_init 14 = .ok (.aload_n 0, 1) := by decide +kernel
theorem dC_Itm_init_15 : decode cC_Itm_init 15 = .ok (.iconst (0), 1) := by decide +kernel
theorem dC_Itm_init_16 : decode cC_Itm_init 16 = .ok (.putfield 19, 3) := by decide +kernel
theorem dC_Itm_init_19 : decode cC_Itm_init 19 = .ok (.aload_n 0, 1) := by decide +kernel
theorem dC_Itm_init_20 : decode cC_Itm_init 20 = .ok (.iconst (0), 1) := by decide +kernel
theorem dC_Itm_init_21 : decode cC_Itm_init 21 = .ok (.putfield 22, 3) := by decide +kernel
theorem dC_Itm_init_24 : decode cC_Itm_init 24 = .ok (.aload_n 0, 1) := by decide +kernel
theorem dC_Itm_init_25 : decode cC_Itm_init 25 = .ok (.iconst (0), 1) := by decide +kernel
theorem dC_Itm_init_26 : decode cC_Itm_init 26 = .ok (.putfield 25, 3) := by decide +kernel
theorem dC_Itm_init_29 : decode cC_Itm_init 29 = .ok (.aload_n 0, 1) := by decide +kernel
theorem dC_Itm_init_30 : decode cC_Itm_init 30 = .ok (.iconst (0), 1) := by decide +kernel
theorem dC_Itm_init_31 : decode cC_Itm_init 31 = .ok (.putfield 28, 3) := by decide +kernel
theorem dC_Itm_init_34 : decode cC_Itm_init 34 = .ok (.aload_n 0, 1) := by decide +kernel
theorem dC_Itm_init_35 : decode cC_Itm_init 35 = .ok (.iconst (0), 1) := by decide +kernel
theorem dC_Itm_init_36 : decode cC_Itm_init 36 = .ok (.putfield 31, 3) := by decide +kernel
theorem dC_Itm_init_39 : decode cC_Itm_init 39 = .ok (.aload_n 0, 1) := by decide +kernel
theorem dC_Itm_init_40 : decode cC_Itm_init 40 = .ok (.iconst (0), 1) := by decide +kernel
theorem dC_Itm_init_41 : decode cC_Itm_init 41 = .ok (.putfield 34, 3) := by decide +kernel
theorem dC_Itm_init_44 : decode cC_Itm_init 44 = .ok (.aload_n 0, 1) := by decide +kernel
theorem dC_Itm_init_45 : decode cC_Itm_init 45 = .ok (.iconst (0), 1) := by decide +kernel
theorem dC_Itm_init_46 : decode cC_Itm_init 46 = .ok (.putfield 37, 3) := by decide +kernel
theorem dC_Itm_init_49 : decode cC_Itm_init 49 = .ok (.return_, 1) := by decide +kernel
set_option maxHeartbeats 4000000 in
set_option maxRecDepth 100000 in
theorem kC_Itm_init (l : Launch) (D : va_G) (dA : Nat → ClassId) (z : Nat → Nat) (q : Nat) : KC l D dA z yC_Itm_init cC_Itm_init 1 none 1 40 0 0 [[(q, .inr (4, itf (fun _ => 0)))]] [.ref q] (fun Ws' ov => Ws' = [[(q, .inr (4, itf (fun _ => 0)))]] ∧ ov = none) := by
  refine x_enterC (by decide +kernel) (Nat.le_of_ble_eq_true rfl) (fun p e s m args below meth c A C _ hW ls hl => ?_)
  have hx := C.1.1
  have hb := C.1.2.1
  have hl : lv_has ls 1 [(0, .ref q)] := hl
  refine lv_aload_n (pc := 0) hx hb dC_Itm_init_0 rfl (lv_at hl 0 rfl) ?_
  refine x_objI (pc := 1) C qc_335 qc_44 qc_45 hl.1 dC_Itm_init_1 (Nat.le_of_ble_eq_true rfl) (Nat.le_of_ble_eq_true rfl) ?_
  refine lv_aload_n (pc := 4) hx hb dC_Itm_init_4 rfl (lv_at hl 0 rfl) ?_
  refine lv_iconst (pc := 5) (v := 0) hx hb dC_Itm_init_5 (by decide) ?_
  refine x_putC (pc := 6) (ty := .int) (v := .int 0) (Ws' := [[(q, .inr (4, itf (fun _ => 0)))]]) C hW 0 rfl (ci := 4) rfl i_Itm tok_Itm n_Itm 0 (by decide) qc_336 rfl rfl (by decide +kernel) rfl rfl (Nat.le_of_ble_eq_true rfl) rfl dC_Itm_init_6 (fun H locs hW => ?_)
  refine lv_aload_n (pc := 9) hx hb dC_Itm_init_9 rfl (lv_at hl 0 rfl) ?_
  refine lv_iconst (pc := 10) (v := 0) hx hb dC_Itm_init_10 (by decide) ?_
  refine x_putC (pc := 11) (ty := .boolean) (v := .int 0) (Ws' := [[(q, .inr (4, itf (fun _ => 0)))]]) C hW 0 rfl (ci := 4) rfl i_Itm tok_Itm n_Itm 1 (by decide) qc_339 rfl rfl (by decide +kernel) rfl rfl (Nat.le_of_ble_eq_true rfl) rfl dC_Itm_init_11 (fun H locs hW => ?_)
  refine lv_aload_n (pc := 14) hx hb dC_Itm_init_14 rfl (lv_at hl 0 rfl) ?_
  refine lv_iconst (pc := 15) (v := 0) hx hb dC_Itm_init_15 (by decide) ?_
  refine x_putC (pc := 16) (ty := .int) (v := .int 0) (Ws' := [[(q, .inr (4, itf (fun _ => 0)))]]) C hW 0 rfl (ci := 4) rfl i_Itm tok_Itm n_Itm 2 (by decide) qc_341 rfl rfl (by decide +kernel) rfl rfl (Nat.le_of_ble_eq_true rfl) rfl dC_Itm_init_16 (fun H locs hW => ?_)
  refine lv_aload_n (pc := 19) hx hb dC_Itm_init_19 rfl (lv_at hl 0 rfl) ?_
  refine lv_iconst (pc := 20) (v := 0) hx hb dC_Itm_init_20 (by decide) ?_
  refine x_putC (pc := 21) (ty := .int) (v := .int 0) (Ws' := [[(q, .inr (4, itf (fun _ => 0)))]]) C hW 0 rfl (ci := 4) rfl i_Itm tok_Itm n_Itm 3 (by decide) qc_344 rfl rfl (by decide +kernel) rfl rfl (Nat.le_of_ble_eq_true rfl) rfl dC_Itm_init_21 (fun H locs hW => ?_)
  refine lv_aload_n (pc := 24) hx hb dC_Itm_init_24 rfl (lv_at hl 0 rfl) ?_
  refine lv_iconst (pc := 25) (v := 0) hx hb dC_Itm_init_25 (by decide) ?_
  refine x_putC (pc := 26) (ty := .int) (v := .int 0) (Ws' := [[(q, .inr (4, itf (fun _ => 0)))]]) C hW 0 rfl (ci := 4) rfl i_Itm tok_Itm n_Itm 4 (by decide) qc_349 rfl rfl (by decide +kernel) rfl rfl (Nat.le_of_ble_eq_true rfl) rfl dC_Itm_init_26 (fun H locs hW => ?_)
  refine lv_aload_n (pc := 29) hx hb dC_Itm_init_29 rfl (lv_at hl 0 rfl) ?_
  refine lv_iconst (pc := 30) (v := 0) hx hb dC_Itm_init_30 (by decide) ?_
  refine x_putC (pc := 31) (ty := .int) (v := .int 0) (Ws' := [[(q, .inr (4, itf (fun _ => 0)))]]) C hW 0 rfl (ci := 4) rfl i_Itm tok_Itm n_Itm 5 (by decide) qc_352 rfl rfl (by decide +kernel) rfl rfl (Nat.le_of_ble_eq_true rfl) rfl dC_Itm_init_31 (fun H locs hW => ?_)
  refine lv_aload_n (pc := 34) hx hb dC_Itm_init_34 rfl (lv_at hl 0 rfl) ?_
  refine lv_iconst (pc := 35) (v := 0) hx hb dC_Itm_init_35 (by decide) ?_
  refine x_putC (pc := 36) (ty := .int) (v := .int 0) (Ws' := [[(q, .inr (4, itf (fun _ => 0)))]]) C hW 0 rfl (ci := 4) rfl i_Itm tok_Itm n_Itm 6 (by decide) qc_354 rfl rfl (by decide +kernel) rfl rfl (Nat.le_of_ble_eq_true rfl) rfl dC_Itm_init_36 (fun H locs hW => ?_)
  refine lv_aload_n (pc := 39) hx hb dC_Itm_init_39 rfl (lv_at hl 0 rfl) ?_
  refine lv_iconst (pc := 40) (v := 0) hx hb dC_Itm_init_40 (by decide) ?_
  refine x_putC (pc := 41) (ty := .int) (v := .int 0) (Ws' := [[(q, .inr (4, itf (fun _ => 0)))]]) C hW 0 rfl (ci := 4) rfl i_Itm tok_Itm n_Itm 7 (by decide) qc_357 rfl rfl (by decide +kernel) rfl rfl (Nat.le_of_ble_eq_true rfl) rfl dC_Itm_init_41 (fun H locs hW => ?_)
  refine lv_aload_n (pc := 44) hx hb dC_Itm_init_44 rfl (lv_at hl 0 rfl) ?_
  refine lv_iconst (pc := 45) (v := 0) hx hb dC_Itm_init_45 (by decide) ?_
  refine x_putC (pc := 46) (ty := .int) (v := .int 0) (Ws' := [[(q, .inr (4, itf (fun _ => 0)))]]) C hW 0 rfl (ci := 4) rfl i_Itm tok_Itm n_Itm 8 (by decide) qc_361 rfl rfl (by decide +kernel) rfl rfl (Nat.le_of_ble_eq_true rfl) rfl dC_Itm_init_46 (fun H locs hW => ?_)
  exact x_retCv (pc := 49) C rfl hW ⟨rfl, rfl⟩ (Nat.le_refl 0) (Nat.le_refl 0) dC_Itm_init_49
