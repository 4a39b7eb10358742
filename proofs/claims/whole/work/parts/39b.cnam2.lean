theorem qsc_1 : Cond.selects "LineAssembler$Names" (⟨"LineAssembler$Names", "enterVariant", "(LLineAssembler$Op;Ljava/lang/String;II)V"⟩ : MethodName) ⟨"LineAssembler$Names", "enterVariant", "(LLineAssembler$Op;Ljava/lang/String;II)V"⟩ ∈ lw_gd := lw_gds (List.mem_of_getElem? (i := 1) (by decide +kernel)) (by decide +kernel)
theorem qc_8 : (Jvm.Cond.initialized "LineAssembler$Op") ∈ lw_gd := uc_0 (List.mem_of_getElem? (i := 8) (by decide +kernel)) (by decide +kernel)
theorem qc_99 : (Jvm.Cond.methodLink "LineAssembler$Names" (146 : Nat) ({ cls := "LineAssembler$Names", name := "enterVariant", desc := "(LLineAssembler$Op;Ljava/lang/String;II)V" } : Jvm.MethodName)) ∈ lw_gd := uc_0 (List.mem_of_getElem? (i := 99) (by decide +kernel)) (by decide +kernel)
theorem qc_101 : (Jvm.Cond.instanceMethod ({ cls := "LineAssembler$Names", name := "enterVariant", desc := "(LLineAssembler$Op;Ljava/lang/String;II)V" } : Jvm.MethodName)) ∈ lw_gd := uc_0 (List.mem_of_getElem? (i := 101) (by decide +kernel)) (by decide +kernel)
theorem qc_102 : (Jvm.Cond.code ({ cls := "LineAssembler$Names", name := "enterVariant", desc := "(LLineAssembler$Op;Ljava/lang/String;II)V" } : Jvm.MethodName) prog_7_method_13_code (5 : Nat) (Option.none : Option Jvm.ClassFile.FieldType)) ∈ lw_gd := uc_0 (List.mem_of_getElem? (i := 102) (by decide +kernel)) (by decide +kernel)
theorem qc_183 : (Jvm.Cond.methodLink "LineAssembler$Names" (150 : Nat) ({ cls := "LineAssembler$Op", name := "isAtomic", desc := "()Z" } : Jvm.MethodName)) ∈ lw_gd := uc_0 (List.mem_of_getElem? (i := 183) (by decide +kernel)) (by decide +kernel)
theorem qc_184 : (Jvm.Cond.instanceMethod ({ cls := "LineAssembler$Op", name := "isAtomic", desc := "()Z" } : Jvm.MethodName)) ∈ lw_gd := uc_0 (List.mem_of_getElem? (i := 184) (by decide +kernel)) (by decide +kernel)
theorem qc_185 : (Jvm.Cond.selects "LineAssembler$Op" ({ cls := "LineAssembler$Op", name := "isAtomic", desc := "()Z" } : Jvm.MethodName) ({ cls := "LineAssembler$Op", name := "isAtomic", desc := "()Z" } : Jvm.MethodName)) ∈ lw_gd := uc_0 (List.mem_of_getElem? (i := 185) (by decide +kernel)) (by decide +kernel)
theorem qc_186 : (Jvm.Cond.code ({ cls := "LineAssembler$Op", name := "isAtomic", desc := "()Z" } : Jvm.MethodName) prog_8_method_7_code (1 : Nat) (Option.some Jvm.ClassFile.FieldType.boolean)) ∈ lw_gd := uc_0 (List.mem_of_getElem? (i := 186) (by decide +kernel)) (by decide +kernel)
theorem qc_188 : (Jvm.Cond.constant "LineAssembler$Names" (156 : Nat) (67108864 : Int32)) ∈ lw_gd := uc_0 (List.mem_of_getElem? (i := 188) (by decide +kernel)) (by decide +kernel)
theorem qc_190 : (Jvm.Cond.constant "LineAssembler$Names" (159 : Nat) (33554432 : Int32)) ∈ lw_gd := uc_0 (List.mem_of_getElem? (i := 190) (by decide +kernel)) (by decide +kernel)
theorem qc_192 : (Jvm.Cond.constant "LineAssembler$Names" (162 : Nat) (100663296 : Int32)) ∈ lw_gd := uc_0 (List.mem_of_getElem? (i := 192) (by decide +kernel)) (by decide +kernel)
abbrev cC_Nam_enterOperation : ByteArray := prog_7_method_12_code
def yC_Nam_enterOperation : MethodName := ⟨R_Nam, "enterOperation", "(LLineAssembler$Op;I)V"⟩
theorem dC_Nam_enterOperation_0 : decode cC_Nam_enterOperation 0 = .ok (.aload_n 0, 1) := by decide +kernel
theorem dC_Nam_enterOperation_1 : decode cC_Nam_enterOperation 1 = .ok (.aload_n 1, 1) := by decide +kernel
theorem dC_Nam_enterOperation_2 : decode cC_Nam_enterOperation 2 = .ok (.ldc 144, 2) := by decide +kernel
theorem dC_Nam_enterOperation_4 : decode cC_Nam_enterOperation 4 = .ok (.iload_n 2, 1) := by decide +kernel
theorem dC_Nam_enterOperation_5 : decode cC_Nam_enterOperation 5 = .ok (.iconst (0), 1) := by decide +kernel
theorem dC_Nam_enterOperation_6 : decode cC_Nam_enterOperation 6 = .ok (.invokevirtual 146, 3) := by decide +kernel
theorem dC_Nam_enterOperation_9 : decode cC_Nam_enterOperation 9 = .ok (.aload_n 1, 1) := by decide +kernel
theorem dC_Nam_enterOperation_10 : decode cC_Nam_enterOperation 10 = .ok (.invokevirtual 150, 3) := by decide +kernel
theorem dC_Nam_enterOperation_13 : decode cC_Nam_enterOperation 13 = .ok (.ifCond .eq (33), 3) := by decide +kernel
theorem dC_Nam_enterOperation_16 : decode cC_Nam_enterOperation 16 = .ok (.aload_n 0, 1) := by decide +kernel
theorem dC_Nam_enterOperation_17 : decode cC_Nam_enterOperation 17 = .ok (.aload_n 1, 1) := by decide +kernel
theorem dC_Nam_enterOperation_18 : decode cC_Nam_enterOperation 18 = .ok (.ldc 154, 2) := by decide +kernel
theorem dC_Nam_enterOperation_20 : decode cC_Nam_enterOperation 20 = .ok (.iload_n 2, 1) := by decide +kernel
theorem dC_Nam_enterOperation_21 : decode cC_Nam_enterOperation 21 = .ok (.ldc 156, 2) := by decide +kernel
theorem dC_Nam_enterOperation_23 : decode cC_Nam_enterOperation 23 = .ok (.invokevirtual 146, 3) := by decide +kernel
theorem dC_Nam_enterOperation_26 : decode cC_Nam_enterOperation 26 = .ok (.aload_n 0, 1) := by decide +kernel
theorem dC_Nam_enterOperation_27 : decode cC_Nam_enterOperation 27 = .ok (.aload_n 1, 1) := by decide +kernel
theorem dC_Nam_enterOperation_28 : decode cC_Nam_enterOperation 28 = .ok (.ldc 157, 2) := by decide +kernel
theorem dC_Nam_enterOperation_30 : decode cC_Nam_enterOperation 30 = .ok (.iload_n 2, 1) := by decide +kernel
theorem dC_Nam_enterOperation_31 : decode cC_Nam_enterOperation 31 = .ok (.ldc 159, 2) := by decide +kernel
theorem dC_Nam_enterOperation_33 : decode cC_Nam_enterOperation 33 = .ok (.invokevirtual 146, 3) := by decide +kernel
theorem dC_Nam_enterOperation_36 : decode cC_Nam_enterOperation 36 = .ok (.aload_n 0, 1) := by decide +kernel
theorem dC_Nam_enterOperation_37 : decode cC_Nam_enterOperation 37 = .ok (.aload_n 1, 1) := by decide +kernel
theorem dC_Nam_enterOperation_38 : decode cC_Nam_enterOperation 38 = .ok (.ldc 160, 2) := by decide +kernel
theorem dC_Nam_enterOperation_40 : decode cC_Nam_enterOperation 40 = .ok (.iload_n 2, 1) := by decide +kernel
theorem dC_Nam_enterOperation_41 : decode cC_Nam_enterOperation 41 = .ok (.ldc 162, 2) := by decide +kernel
theorem dC_Nam_enterOperation_43 : decode cC_Nam_enterOperation 43 = .ok (.invokevirtual 146, 3) := by decide +kernel
theorem dC_Nam_enterOperation_46 : decode cC_Nam_enterOperation 46 = .ok (.return_, 1) := by decide +kernel
theorem gC_Nam_146 : GoodIn lw_gd (wsV R_Nam 146 R_Nam yC_Nam_enterVariant (.code yC_Nam_enterVariant cC_Nam_enterVariant 5 none :: lw_gd)) := lw_GV qc_102 qc_99 qc_101 qsc_1 qc_3
theorem gC_Nam_150 : GoodIn lw_gd (wsV R_Nam 150 "LineAssembler$Op" yC_Op_isAtomic (.code yC_Op_isAtomic cC_Op_isAtomic 1 (some .boolean) :: lw_gd)) := lw_GV qc_186 qc_183 qc_184 qc_185 qc_8
section
variable {p : Program} {l : Launch} {e : Env} {s : State} {m : MethodId} {args : Array Value} {below : List Frame} {meth : Method} {c : Code} {D : va_G} {dA : Nat → ClassId} {z : Nat → Nat} {o b i : Nat → Nat} {A : Nat → Prop}
def C_Nam_enterOperation_46 (N : Nat)  (sN : CS) : Option ((Int32 × CS) × (Nat × Nat)) :=
  some (((0 : Int32), sN), (0, 0))
set_option maxHeartbeats 4000000 in
set_option maxRecDepth 100000 in
theorem bC_Nam_enterOperation_46 (N : Nat)  {r : Int32} {u : CS} {DC DS : Nat} (C : CxC R_Nam p s m args meth c cC_Nam_enterOperation 3 none D dA z A)  (sN : CS) (dc ds kc ks : Nat) (hM : C_Nam_enterOperation_46 N   sN = some ((r, u), (dc, ds))) (hdc : kc + dc ≤ DC) (hds : ks + ds ≤ DS) (b : Nat → Nat) (H : Heap) (locs : List Loc) (hW : WdC D A s (w_Nam dA o b sN) H locs) (ls : Array Slot) (hl : lv_has ls 3 []) : W p l e (rmC 6 190 DC DS) s m args below meth c H locs kc ks (MQ below (QC D A (fun Ws' ov => ∃ b' : Nat → Nat, Ws' = (w_Nam dA o b' u) ∧ ov = none)) args s DC DS A) (F0 m 46 ls []) := by
  have hx := C.1.1
  have hb := C.1.2.1
  have hown := C.1.2.2.2.2.1
  have hT := C.1.2.2.2.2.2.1
  unfold C_Nam_enterOperation_46 at hM
  obtain ⟨rfl, rfl, rfl, rfl⟩ := sm_q hM
  exact x_retCv (pc := 46) C rfl hW ⟨_, rfl, rfl⟩ (by omega) (by omega) dC_Nam_enterOperation_46
def C_Nam_enterOperation (N : Nat) (j1 : Nat) (x2 : Int32) (sN : CS) : Option ((Int32 × CS) × (Nat × Nat)) :=
  ct (C_Nam_enterVariant N j1 0 x2 (0 : Int32) sN) (fun r1 u2 => gd (decide (j1 < ex_nO)) (cr (C_Op_isAtomic  j1) (fun r9 => (if r9 = 0 then C_Nam_enterOperation_46 N  u2 else ct (C_Nam_enterVariant N j1 1 x2 (67108864 : Int32) u2) (fun r10 u11 => ct (C_Nam_enterVariant N j1 2 x2 (33554432 : Int32) u11) (fun r17 u18 => ct (C_Nam_enterVariant N j1 3 x2 (100663296 : Int32) u18) (fun r24 u25 => C_Nam_enterOperation_46 N  u25)))))))
set_option maxHeartbeats 4000000 in
set_option maxRecDepth 100000 in
theorem bC_Nam_enterOperation_0 (N : Nat)  {r : Int32} {u : CS} {DC DS : Nat} (C : CxC R_Nam p s m args meth c cC_Nam_enterOperation 3 none D dA z A) (j1 : Nat) (x2 : Int32) (sN : CS) (dc ds kc ks : Nat) (hM : C_Nam_enterOperation N  j1 x2 sN = some ((r, u), (dc, ds))) (hdc : kc + dc ≤ DC) (hds : ks + ds ≤ DS) (b : Nat → Nat) (H : Heap) (locs : List Loc) (hW : WdC D A s (w_Nam dA o b sN) H locs) (ls : Array Slot) (hl : lv_has ls 3 [(0, .ref (o 16)), (1, .ref (oP z j1)), (2, .int x2)]) : W p l e (rmC 6 190 DC DS) s m args below meth c H locs kc ks (MQ below (QC D A (fun Ws' ov => ∃ b' : Nat → Nat, Ws' = (w_Nam dA o b' u) ∧ ov = none)) args s DC DS A) (F0 m 0 ls []) := by
  have hx := C.1.1
  have hb := C.1.2.1
  have hown := C.1.2.2.2.2.1
  have hT := C.1.2.2.2.2.2.1
  unfold C_Nam_enterOperation at hM
  refine lv_aload_n (pc := 0) hx hb dC_Nam_enterOperation_0 rfl (lv_at hl 0 rfl) ?_
  refine lv_aload_n (pc := 1) hx hb dC_Nam_enterOperation_1 rfl (lv_at hl 1 rfl) ?_
  refine va_ldcS (pc := 2) hx hb hown (ex_R (r := ("LineAssembler$Names", 144, "")) C.2.2.2 0 rfl) dC_Nam_enterOperation_2 ?_
  refine lv_iload_n (pc := 4) hx hb dC_Nam_enterOperation_4 rfl (lv_at hl 2 rfl) ?_
  refine lv_iconst (pc := 5) (v := 0) hx hb dC_Nam_enterOperation_5 (by decide) ?_
  obtain ⟨r1, u2, da3, ea4, db5, eb6, hr1, hM, hqda3, hpda3⟩ := ct_some hM
  refine x_callC (pc := 6) (n' := 20) C hW (kC_Nam_enterVariant l D dA z o b N j1 0 x2 (0 : Int32) sN hr1) [0, 1, 2, 3, 4, 5, 6, 7, 8, 9, 10, 11, 12, 13, 14, 15, 16, 17, 18, 19] rfl (by decide +kernel) rfl (ci := 2) rfl (q0 := 0) rfl gC_Nam_146 ⟨rfl, by decide, by decide, by decide +kernel⟩ ⟨Nat.le_of_ble_eq_true rfl, Nat.le_of_ble_eq_true rfl⟩ ⟨show _ + da3 ≤ DC by omega, show _ + ea4 ≤ DS by omega⟩ (As := [.ref (oP z j1), .ref (sK z 0), .int x2, .int (0 : Int32)]) (n := 4) rfl hl.1 rfl (Nat.le_of_ble_eq_true rfl) dC_Nam_enterOperation_6 (fun Wc' ov H locs hPo hWn => ?_)
  obtain ⟨b7, rfl, rfl⟩ := hPo
  have hW := hWn (w_Nam dA o (mxs [1] b7 b) u2) rfl rfl
  generalize mxs [1] b7 b = b at hW
  refine lv_aload_n (pc := 9) hx hb dC_Nam_enterOperation_9 rfl (lv_at hl 1 rfl) ?_
  obtain ⟨hg8, hM⟩ := gd_some hM
  obtain ⟨r9, hr9, hM⟩ := cr_some hM
  refine x_callK (pc := 10) (n' := 20) (Wc := []) (ov := some (.int r9)) C hW (kC_Op_isAtomic l D dA z (fun _ => 0) (fun _ => 0)  j1 hr9) [0, 1, 2, 3, 4, 5, 6, 7, 8, 9, 10, 11, 12, 13, 14, 15, 16, 17, 18, 19] rfl (by decide +kernel) rfl (ex_rO C.2.2.2 (of_decide_eq_true hg8) hW.2.2) gC_Nam_150 ⟨rfl, by decide, by decide, by decide +kernel⟩ ⟨Nat.le_of_ble_eq_true rfl, Nat.le_of_ble_eq_true rfl⟩ ⟨show _ ≤ DC by omega, show _ ≤ DS by omega⟩ (As := []) (n := 0) rfl hl.1 rfl (Nat.le_of_ble_eq_true rfl) dC_Nam_enterOperation_10 ?_
  refine lv_if_eq (pc := 13) (tgt := 46) hx hb dC_Nam_enterOperation_13 (by decide) (fun hc => ?_) (fun hc => ?_)
  · replace hM := it_t hc hM
    exact bC_Nam_enterOperation_46 N  C  _ _ _ _ _ hM (by omega) (by omega) _ _ _ hW _ (lv_sub hl [] rfl)
  · replace hM := it_f hc hM
    refine lv_aload_n (pc := 16) hx hb dC_Nam_enterOperation_16 rfl (lv_at hl 0 rfl) ?_
    refine lv_aload_n (pc := 17) hx hb dC_Nam_enterOperation_17 rfl (lv_at hl 1 rfl) ?_
    refine va_ldcS (pc := 18) hx hb hown (ex_R (r := ("LineAssembler$Names", 154, ".aq")) C.2.2.2 1 rfl) dC_Nam_enterOperation_18 ?_
    refine lv_iload_n (pc := 20) hx hb dC_Nam_enterOperation_20 rfl (lv_at hl 2 rfl) ?_
    refine lv_ldc (pc := 21) (v := 67108864) hx hb hown (hT _ qc_188) dC_Nam_enterOperation_21 ?_
    obtain ⟨r10, u11, da12, ea13, db14, eb15, hr10, hM, hqda12, hpda12⟩ := ct_some hM
    refine x_callC (pc := 23) (n' := 20) C hW (kC_Nam_enterVariant l D dA z o b N j1 1 x2 (67108864 : Int32) u2 hr10) [0, 1, 2, 3, 4, 5, 6, 7, 8, 9, 10, 11, 12, 13, 14, 15, 16, 17, 18, 19] rfl (by decide +kernel) rfl (ci := 2) rfl (q0 := 0) rfl gC_Nam_146 ⟨rfl, by decide, by decide, by decide +kernel⟩ ⟨Nat.le_of_ble_eq_true rfl, Nat.le_of_ble_eq_true rfl⟩ ⟨show _ + da12 ≤ DC by omega, show _ + ea13 ≤ DS by omega⟩ (As := [.ref (oP z j1), .ref (sK z 1), .int x2, .int (67108864 : Int32)]) (n := 4) rfl hl.1 rfl (Nat.le_of_ble_eq_true rfl) dC_Nam_enterOperation_23 (fun Wc' ov H locs hPo hWn => ?_)
    obtain ⟨b16, rfl, rfl⟩ := hPo
    have hW := hWn (w_Nam dA o (mxs [1] b16 b) u11) rfl rfl
    generalize mxs [1] b16 b = b at hW
    refine lv_aload_n (pc := 26) hx hb dC_Nam_enterOperation_26 rfl (lv_at hl 0 rfl) ?_
    refine lv_aload_n (pc := 27) hx hb dC_Nam_enterOperation_27 rfl (lv_at hl 1 rfl) ?_
    refine va_ldcS (pc := 28) hx hb hown (ex_R (r := ("LineAssembler$Names", 157, ".rl")) C.2.2.2 2 rfl) dC_Nam_enterOperation_28 ?_
    refine lv_iload_n (pc := 30) hx hb dC_Nam_enterOperation_30 rfl (lv_at hl 2 rfl) ?_
    refine lv_ldc (pc := 31) (v := 33554432) hx hb hown (hT _ qc_190) dC_Nam_enterOperation_31 ?_
    obtain ⟨r17, u18, da19, ea20, db21, eb22, hr17, hM, hqda19, hpda19⟩ := ct_some hM
    refine x_callC (pc := 33) (n' := 20) C hW (kC_Nam_enterVariant l D dA z o b N j1 2 x2 (33554432 : Int32) u11 hr17) [0, 1, 2, 3, 4, 5, 6, 7, 8, 9, 10, 11, 12, 13, 14, 15, 16, 17, 18, 19] rfl (by decide +kernel) rfl (ci := 2) rfl (q0 := 0) rfl gC_Nam_146 ⟨rfl, by decide, by decide, by decide +kernel⟩ ⟨Nat.le_of_ble_eq_true rfl, Nat.le_of_ble_eq_true rfl⟩ ⟨show _ + da19 ≤ DC by omega, show _ + ea20 ≤ DS by omega⟩ (As := [.ref (oP z j1), .ref (sK z 2), .int x2, .int (33554432 : Int32)]) (n := 4) rfl hl.1 rfl (Nat.le_of_ble_eq_true rfl) dC_Nam_enterOperation_33 (fun Wc' ov H locs hPo hWn => ?_)
    obtain ⟨b23, rfl, rfl⟩ := hPo
    have hW := hWn (w_Nam dA o (mxs [1] b23 b) u18) rfl rfl
    generalize mxs [1] b23 b = b at hW
    refine lv_aload_n (pc := 36) hx hb dC_Nam_enterOperation_36 rfl (lv_at hl 0 rfl) ?_
    refine lv_aload_n (pc := 37) hx hb dC_Nam_enterOperation_37 rfl (lv_at hl 1 rfl) ?_
    refine va_ldcS (pc := 38) hx hb hown (ex_R (r := ("LineAssembler$Names", 160, ".aqrl")) C.2.2.2 3 rfl) dC_Nam_enterOperation_38 ?_
    refine lv_iload_n (pc := 40) hx hb dC_Nam_enterOperation_40 rfl (lv_at hl 2 rfl) ?_
    refine lv_ldc (pc := 41) (v := 100663296) hx hb hown (hT _ qc_192) dC_Nam_enterOperation_41 ?_
    obtain ⟨r24, u25, da26, ea27, db28, eb29, hr24, hM, hqda26, hpda26⟩ := ct_some hM
    refine x_callC (pc := 43) (n' := 20) C hW (kC_Nam_enterVariant l D dA z o b N j1 3 x2 (100663296 : Int32) u18 hr24) [0, 1, 2, 3, 4, 5, 6, 7, 8, 9, 10, 11, 12, 13, 14, 15, 16, 17, 18, 19] rfl (by decide +kernel) rfl (ci := 2) rfl (q0 := 0) rfl gC_Nam_146 ⟨rfl, by decide, by decide, by decide +kernel⟩ ⟨Nat.le_of_ble_eq_true rfl, Nat.le_of_ble_eq_true rfl⟩ ⟨show _ + da26 ≤ DC by omega, show _ + ea27 ≤ DS by omega⟩ (As := [.ref (oP z j1), .ref (sK z 3), .int x2, .int (100663296 : Int32)]) (n := 4) rfl hl.1 rfl (Nat.le_of_ble_eq_true rfl) dC_Nam_enterOperation_43 (fun Wc' ov H locs hPo hWn => ?_)
    obtain ⟨b30, rfl, rfl⟩ := hPo
    have hW := hWn (w_Nam dA o (mxs [1] b30 b) u25) rfl rfl
    generalize mxs [1] b30 b = b at hW
    exact bC_Nam_enterOperation_46 N  C  _ _ _ _ _ hM (by omega) (by omega) _ _ _ hW _ (lv_sub hl [] rfl)
theorem kC_Nam_enterOperation (l : Launch) (D : va_G) (dA : Nat → ClassId) (z : Nat → Nat) (o b : Nat → Nat) (N : Nat) (j1 : Nat) (x2 : Int32) (sN : CS) {r : Int32} {u : CS} {dc ds : Nat} (hM : C_Nam_enterOperation N j1 x2 sN = some ((r, u), (dc, ds))) : KC l D dA z yC_Nam_enterOperation cC_Nam_enterOperation 3 none 6 190 dc ds (w_Nam dA o b sN) [.ref (o 16), .ref (oP z j1), .int x2] (fun Ws' ov => ∃ b' : Nat → Nat, Ws' = (w_Nam dA o b' u) ∧ ov = none) := x_enterC (by decide +kernel) (Nat.le_of_ble_eq_true rfl) (fun p e s m args below meth c A C _ hW ls hl => bC_Nam_enterOperation_0 N C j1 x2 sN dc ds 0 0 hM (by omega) (by omega) b s.heap [] hW ls hl)
end
