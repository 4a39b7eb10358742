def jushl (x : Int64) (y : Int32) : Int64 := (x.toUInt64 >>> (y.toInt64.toUInt64 &&& Int64.toUInt64 63)).toInt64
theorem qc_712 : (Jvm.Cond.methodLink "jdk/internal/util/ArraysSupport" (194 : Nat) ({ cls := "java/lang/Math", name := "max", desc := "(II)I" } : Jvm.MethodName)) ∈ lw_gd := uc_2 (List.mem_of_getElem? (i := 232) (by decide +kernel)) (by decide +kernel)
theorem qc_715 : (Jvm.Cond.constant "jdk/internal/util/ArraysSupport" (200 : Nat) (2147483639 : Int32)) ∈ lw_gd := uc_2 (List.mem_of_getElem? (i := 235) (by decide +kernel)) (by decide +kernel)
abbrev cC_Asp_newLength : ByteArray := prog_44_method_27_code
def yC_Asp_newLength : MethodName := ⟨"jdk/internal/util/ArraysSupport", "newLength", "(III)I"⟩
abbrev rm_Asp_newLength : Room := { frames := 1, cells := 0, slots := 0, locals := 40 }
theorem dC_Asp_newLength_0 : decode cC_Asp_newLength 0 = .ok (.iload_n 0, 1) := by decide +kernel
theorem dC_Asp_newLength_1 : decode cC_Asp_newLength 1 = .ok (.iload_n 1, 1) := by decide +kernel
theorem dC_Asp_newLength_2 : decode cC_Asp_newLength 2 = .ok (.iload_n 2, 1) := by decide +kernel
theorem dC_Asp_newLength_3 : decode cC_Asp_newLength 3 = .ok (.invokestatic 194, 3) := by decide +kernel
theorem dC_Asp_newLength_6 : decode cC_Asp_newLength 6 = .ok (.iadd, 1) := by decide +kernel
theorem dC_Asp_newLength_7 : decode cC_Asp_newLength 7 = .ok (.istore_n 3, 1) := by decide +kernel
theorem dC_Asp_newLength_8 : decode cC_Asp_newLength 8 = .ok (.iconst (0), 1) := by decide +kernel
theorem dC_Asp_newLength_9 : decode cC_Asp_newLength 9 = .ok (.iload_n 3, 1) := by decide +kernel
theorem dC_Asp_newLength_10 : decode cC_Asp_newLength 10 = .ok (.if_icmp .ge (11), 3) := by decide +kernel
theorem dC_Asp_newLength_13 : decode cC_Asp_newLength 13 = .ok (.iload_n 3, 1) := by decide +kernel
theorem dC_Asp_newLength_14 : decode cC_Asp_newLength 14 = .ok (.ldc 200, 2) := by decide +kernel
theorem dC_Asp_newLength_16 : decode cC_Asp_newLength 16 = .ok (.if_icmp .gt (5), 3) := by decide +kernel
theorem dC_Asp_newLength_19 : decode cC_Asp_newLength 19 = .ok (.iload_n 3, 1) := by decide +kernel
theorem dC_Asp_newLength_20 : decode cC_Asp_newLength 20 = .ok (.ireturn, 1) := by decide +kernel
theorem dC_Asp_newLength_21 : decode cC_Asp_newLength 21 = .ok (.iload_n 0, 1) := by decide +kernel
theorem dC_Asp_newLength_22 : decode cC_Asp_newLength 22 = .ok (.iload_n 1, 1) := by decide +kernel
theorem dC_Asp_newLength_23 : decode cC_Asp_newLength 23 = .ok (.invokestatic 201, 3) := by decide +kernel
section
variable {p : Program} {l : Launch} {e : Env} {s : State} {m : MethodId} {args : Array Value} {below : List Frame} {meth : Method} {c : Code} {D : va_G} {dA : Nat → ClassId} {z : Nat → Nat} {o b i : Nat → Nat} {A : Nat → Prop}
def C_Asp_newLength_21 (x0 : Int32) (x1 : Int32) : Option Int32 :=
  none
set_option maxHeartbeats 4000000 in
set_option maxRecDepth 100000 in
theorem bC_Asp_newLength_21  {r : Int32} (C : CxS "jdk/internal/util/ArraysSupport" p s m args meth c cC_Asp_newLength 4 (some .int)) (x0 : Int32) (x1 : Int32) (hM : C_Asp_newLength_21  x0 x1 = some r) (ls : Array Slot) (hl : lv_has ls 4 [(0, .int x0), (1, .int x1)]) : W p l e rm_Asp_newLength s m args below meth c s.heap [] 0 0 (MQ below (QS (some (.int r))) args s 0 0 (fun _ => False)) (F0 m 21 ls []) := by
  have hx := C.1
  have hb := C.2.1
  have hown := C.2.2.2.2.1
  have hT := C.2.2.2.2.2.1
  unfold C_Asp_newLength_21 at hM
  refine lv_iload_n (pc := 21) hx hb dC_Asp_newLength_21 rfl (lv_at hl 0 rfl) ?_
  refine lv_iload_n (pc := 22) hx hb dC_Asp_newLength_22 rfl (lv_at hl 1 rfl) ?_
  cases hM
def C_Asp_newLength (x0 : Int32) (x1 : Int32) (x2 : Int32) : Option Int32 :=
  (if (x0 + (jmax x1 x2)) ≤ (0 : Int32) then C_Asp_newLength_21  x0 x1 else (if (2147483639 : Int32) < (x0 + (jmax x1 x2)) then C_Asp_newLength_21  x0 x1 else some (x0 + (jmax x1 x2))))
set_option maxHeartbeats 4000000 in
set_option maxRecDepth 100000 in
theorem bC_Asp_newLength_0  {r : Int32} (C : CxS "jdk/internal/util/ArraysSupport" p s m args meth c cC_Asp_newLength 4 (some .int)) (x0 : Int32) (x1 : Int32) (x2 : Int32) (hM : C_Asp_newLength  x0 x1 x2 = some r) (ls : Array Slot) (hl : lv_has ls 4 [(0, .int x0), (1, .int x1), (2, .int x2)]) : W p l e rm_Asp_newLength s m args below meth c s.heap [] 0 0 (MQ below (QS (some (.int r))) args s 0 0 (fun _ => False)) (F0 m 0 ls []) := by
  have hx := C.1
  have hb := C.2.1
  have hown := C.2.2.2.2.1
  have hT := C.2.2.2.2.2.1
  unfold C_Asp_newLength at hM
  refine lv_iload_n (pc := 0) hx hb dC_Asp_newLength_0 rfl (lv_at hl 0 rfl) ?_
  refine lv_iload_n (pc := 1) hx hb dC_Asp_newLength_1 rfl (lv_at hl 1 rfl) ?_
  refine lv_iload_n (pc := 2) hx hb dC_Asp_newLength_2 rfl (lv_at hl 2 rfl) ?_
  refine va_mmax (pc := 3) hx hb (C.2.2.1.trans hl.1.symm) hown (hT _ qc_712) (hT _ qc_713) (hT _ qc_5) (hT _ qc_714) (Nat.le_of_ble_eq_true rfl) (Nat.le_of_ble_eq_true rfl) (Nat.le_refl _) (Nat.le_refl _) dC_Asp_newLength_3 ?_
  refine x_seti (b := jmax x1 x2) rfl ?_
  refine lv_iadd (pc := 6) hx hb dC_Asp_newLength_6 ?_
  refine lv_istore_n (pc := 7) (lv' := [(3, .int (x0 + (jmax x1 x2))), (0, .int x0), (1, .int x1), (2, .int x2)]) hx hb dC_Asp_newLength_7 rfl hl (by decide) rfl (fun ls hl => ?_)
  refine lv_iconst (pc := 8) (v := 0) hx hb dC_Asp_newLength_8 (by decide) ?_
  refine lv_iload_n (pc := 9) hx hb dC_Asp_newLength_9 rfl (lv_at hl 0 rfl) ?_
  refine lv_icmp_ge (pc := 10) (tgt := 21) hx hb dC_Asp_newLength_10 (by decide) (fun hc => ?_) (fun hc => ?_)
  · replace hM := it_t hc hM
    exact bC_Asp_newLength_21  C  _ _ hM _ (lv_sub hl [1, 2] rfl)
  · replace hM := it_f hc hM
    refine lv_iload_n (pc := 13) hx hb dC_Asp_newLength_13 rfl (lv_at hl 0 rfl) ?_
    refine lv_ldc (pc := 14) (v := 2147483639) hx hb hown (hT _ qc_715) dC_Asp_newLength_14 ?_
    refine lv_icmp_gt (pc := 16) (tgt := 21) hx hb dC_Asp_newLength_16 (by decide) (fun hc => ?_) (fun hc => ?_)
    · replace hM := it_t hc hM
      exact bC_Asp_newLength_21  C  _ _ hM _ (lv_sub hl [1, 2] rfl)
    · replace hM := it_f hc hM
      refine lv_iload_n (pc := 19) hx hb dC_Asp_newLength_19 rfl (lv_at hl 0 rfl) ?_
      obtain rfl := sm_i hM
      exact x_retS (pc := 20) C rfl dC_Asp_newLength_20
theorem kC_Asp_newLength (l : Launch) (x0 : Int32) (x1 : Int32) (x2 : Int32) {r : Int32} (hM : C_Asp_newLength x0 x1 x2 = some r) : KS l yC_Asp_newLength cC_Asp_newLength 4 (some .int) rm_Asp_newLength [.int x0, .int x1, .int x2] (some (.int r)) := x_enterS (by decide +kernel) (Nat.le_of_ble_eq_true rfl) (fun p e s m args below meth c C ls hl => bC_Asp_newLength_0 C x0 x1 x2 hM ls hl)
end
