theorem qc_131 : (Jvm.Cond.fieldLink "java/lang/String" (1053 : Nat) "jdk/internal/util/Preconditions" "SIOOBE_FORMATTER" "Ljava/util/function/BiFunction;") ∈ lw_gd := uc_0 (List.mem_of_getElem? (i := 131) (by decide +kernel)) (by decide +kernel)
theorem qc_133 : (Jvm.Cond.methodLink "java/lang/String" (1059 : Nat) ({ cls := "jdk/internal/util/Preconditions", name := "checkIndex", desc := "(IILjava/util/function/BiFunction;)I" } : Jvm.MethodName)) ∈ lw_gd := uc_0 (List.mem_of_getElem? (i := 133) (by decide +kernel)) (by decide +kernel)
abbrev cC_Str_checkIndex : ByteArray := prog_29_method_155_code
def yC_Str_checkIndex : MethodName := ⟨R_Str, "checkIndex", "(II)V"⟩
theorem dC_Str_checkIndex_0 : decode cC_Str_checkIndex 0 = .ok (.iload_n 0, 1) := by decide +kernel
theorem dC_Str_checkIndex_1 : decode cC_Str_checkIndex 1 = .ok (.iload_n 1, 1) := by decide +kernel
theorem dC_Str_checkIndex_2 : decode cC_Str_checkIndex 2 = .ok (.getstatic 1053, 3) := by decide +kernel
theorem dC_Str_checkIndex_5 : decode cC_Str_checkIndex 5 = .ok (.invokestatic 1059, 3) := by decide +kernel
theorem dC_Str_checkIndex_8 : decode cC_Str_checkIndex 8 = .ok (.pop, 1) := by decide +kernel
theorem dC_Str_checkIndex_9 : decode cC_Str_checkIndex 9 = .ok (.return_, 1) := by decide +kernel
set_option maxHeartbeats 4000000 in
set_option maxRecDepth 100000 in
theorem kC_PreR (l : Launch) (x0 x1 : Int32) (t : Nat) (h0 : ¬ x0 < 0) (h1 : x0 < x1) : KS l yC_Pre cC_Pre 3 (some .int) rm_pre [.int x0, .int x1, .ref t] (some (.int x0)) := by
  refine x_enterS (by decide +kernel) (Nat.le_of_ble_eq_true rfl) (fun p e s m args below meth c C ls hl => ?_)
  have hx := C.1
  have hb := C.2.1
  have hl : lv_has ls 3 [(0, .int x0), (1, .int x1), (2, .ref t)] := hl
  refine lv_iload_n (pc := 0) hx hb dC_Pre_0 rfl (lv_at hl 0 rfl) ?_
  refine lv_if_lt (pc := 1) (tgt := 9) hx hb dC_Pre_1 (by decide) (fun hc => absurd hc h0) (fun hc => ?_)
  refine lv_iload_n (pc := 4) hx hb dC_Pre_4 rfl (lv_at hl 0 rfl) ?_
  refine lv_iload_n (pc := 5) hx hb dC_Pre_5 rfl (lv_at hl 1 rfl) ?_
  refine lv_icmp_lt (pc := 6) (tgt := 16) hx hb dC_Pre_6 (by decide) (fun hc => ?_) (fun hc => absurd h1 hc)
  refine lv_iload_n (pc := 16) hx hb dC_Pre_16 rfl (lv_at hl 0 rfl) ?_
  exact x_retS (pc := 17) C rfl dC_Pre_17
def isBy (x : Int32) : Bool := decide (narrow .byte (.int x) = .int x)
theorem isBy_n {x : Int32} (h : isBy x = true) : narrow .byte (.int x) = .int x := of_decide_eq_true h
def C_Str_checkIndex (x0 x1 : Int32) : Option Int32 := gd (!(decide (x0 < 0))) (gd (decide (x0 < x1)) (some 0))
set_option maxHeartbeats 4000000 in
set_option maxRecDepth 100000 in
theorem kC_Str_checkIndex (l : Launch) (D : va_G) (dA : Nat → ClassId) (z : Nat → Nat) (o b : Nat → Nat) (x0 x1 : Int32) {r : Int32} (hM : C_Str_checkIndex x0 x1 = some r) : KQ l D dA z yC_Str_checkIndex cC_Str_checkIndex 2 none 1 60 [] [.int x0, .int x1] none := by
  obtain ⟨h0, hM⟩ := gd_some hM
  obtain ⟨h1, hM⟩ := gd_some hM
  simp only [Bool.not_eq_true', decide_eq_false_iff_not, decide_eq_true_eq] at h0 h1
  refine x_enterQ (by decide +kernel) (Nat.le_of_ble_eq_true rfl) (fun p e s m args below meth c A C hW ls hl => ?_)
  have hx := C.1.1
  have hb := C.1.2.1
  have hown := C.1.2.2.2.2.1
  have hT := C.1.2.2.2.2.2.1
  have hl : lv_has ls 2 [(0, .int x0), (1, .int x1)] := hl
  refine lv_iload_n (pc := 0) hx hb dC_Str_checkIndex_0 rfl (lv_at hl 0 rfl) ?_
  refine lv_iload_n (pc := 1) hx hb dC_Str_checkIndex_1 rfl (lv_at hl 1 rfl) ?_
  rcases C.2.2.2.sf with hz | ⟨t, hz⟩
  · refine va_gets (pc := 2) hx hb hz hW.2.2 hown (hT _ qc_131) (fun _ h => h) dC_Str_checkIndex_2 ?_
    refine x_callU (pc := 5) (ov := some (.int x0)) C.1 (kC_Pre l x0 x1 h0 h1) qc_135 qc_133 qc_134 qc_11 ⟨by decide, by decide, by decide +kernel⟩ ⟨rfl, rfl⟩ ⟨by decide, by decide⟩ ⟨by decide, by decide⟩ (As := [.int x0, .int x1, .null]) (n := 3) rfl hl.1 rfl (Nat.le_of_ble_eq_true rfl) dC_Str_checkIndex_5 ?_
    refine lv_pop (pc := 8) hx hb dC_Str_checkIndex_8 rfl ?_
    exact x_retSv (pc := 9) C.1 rfl dC_Str_checkIndex_9
  · refine va_gets (pc := 2) hx hb hz hW.2.2 hown (hT _ qc_131) (fun _ h => h) dC_Str_checkIndex_2 ?_
    refine x_callU (pc := 5) (ov := some (.int x0)) C.1 (kC_PreR l x0 x1 t h0 h1) qc_135 qc_133 qc_134 qc_11 ⟨by decide, by decide, by decide +kernel⟩ ⟨rfl, rfl⟩ ⟨by decide, by decide⟩ ⟨by decide, by decide⟩ (As := [.int x0, .int x1, .ref t]) (n := 3) rfl hl.1 rfl (Nat.le_of_ble_eq_true rfl) dC_Str_checkIndex_5 ?_
    refine lv_pop (pc := 8) hx hb dC_Str_checkIndex_8 rfl ?_
    exact x_retSv (pc := 9) C.1 rfl dC_Str_checkIndex_9
