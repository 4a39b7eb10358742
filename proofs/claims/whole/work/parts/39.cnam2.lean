theorem qsc_2 : Cond.selects "LineAssembler$Names" (⟨"LineAssembler$Names", "putAll", "(Ljava/lang/String;)V"⟩ : MethodName) ⟨"LineAssembler$Names", "putAll", "(Ljava/lang/String;)V"⟩ ∈ lw_gd := lw_gds (List.mem_of_getElem? (i := 2) (by decide +kernel)) (by decide +kernel)
theorem qc_103 : (Jvm.Cond.methodLink "LineAssembler$Names" (137 : Nat) ({ cls := "LineAssembler$Names", name := "putAll", desc := "(Ljava/lang/String;)V" } : Jvm.MethodName)) ∈ lw_gd := uc_0 (List.mem_of_getElem? (i := 103) (by decide +kernel)) (by decide +kernel)
theorem qc_105 : (Jvm.Cond.instanceMethod ({ cls := "LineAssembler$Names", name := "putAll", desc := "(Ljava/lang/String;)V" } : Jvm.MethodName)) ∈ lw_gd := uc_0 (List.mem_of_getElem? (i := 105) (by decide +kernel)) (by decide +kernel)
theorem qc_106 : (Jvm.Cond.code ({ cls := "LineAssembler$Names", name := "putAll", desc := "(Ljava/lang/String;)V" } : Jvm.MethodName) prog_7_method_10_code (3 : Nat) (Option.none : Option Jvm.ClassFile.FieldType)) ∈ lw_gd := uc_0 (List.mem_of_getElem? (i := 106) (by decide +kernel)) (by decide +kernel)
theorem qc_107 : (Jvm.Cond.methodLink "LineAssembler$Names" (124 : Nat) ({ cls := "java/lang/String", name := "length", desc := "()I" } : Jvm.MethodName)) ∈ lw_gd := uc_0 (List.mem_of_getElem? (i := 107) (by decide +kernel)) (by decide +kernel)
theorem qc_117 : (Jvm.Cond.methodLink "LineAssembler$Names" (130 : Nat) ({ cls := "java/lang/String", name := "charAt", desc := "(I)C" } : Jvm.MethodName)) ∈ lw_gd := uc_0 (List.mem_of_getElem? (i := 117) (by decide +kernel)) (by decide +kernel)
theorem qc_118 : (Jvm.Cond.instanceMethod ({ cls := "java/lang/String", name := "charAt", desc := "(I)C" } : Jvm.MethodName)) ∈ lw_gd := uc_0 (List.mem_of_getElem? (i := 118) (by decide +kernel)) (by decide +kernel)
theorem qc_119 : (Jvm.Cond.selects "java/lang/String" ({ cls := "java/lang/String", name := "charAt", desc := "(I)C" } : Jvm.MethodName) ({ cls := "java/lang/String", name := "charAt", desc := "(I)C" } : Jvm.MethodName)) ∈ lw_gd := uc_0 (List.mem_of_getElem? (i := 119) (by decide +kernel)) (by decide +kernel)
theorem qc_120 : (Jvm.Cond.code ({ cls := "java/lang/String", name := "charAt", desc := "(I)C" } : Jvm.MethodName) prog_29_method_56_code (2 : Nat) (Option.some Jvm.ClassFile.FieldType.char)) ∈ lw_gd := uc_0 (List.mem_of_getElem? (i := 120) (by decide +kernel)) (by decide +kernel)
abbrev cC_Nam_putAll : ByteArray := prog_7_method_10_code
def yC_Nam_putAll : MethodName := ⟨R_Nam, "putAll", "(Ljava/lang/String;)V"⟩
theorem dC_Nam_putAll_0 : decode cC_Nam_putAll 0 = .ok (.iconst (0), 1) := by decide +kernel
theorem dC_Nam_putAll_1 : decode cC_Nam_putAll 1 = .ok (.istore_n 2, 1) := by decide +kernel
theorem dC_Nam_putAll_2 : decode cC_Nam_putAll 2 = .ok (.iload_n 2, 1) := by decide +kernel
theorem dC_Nam_putAll_3 : decode cC_Nam_putAll 3 = .ok (.aload_n 1, 1) := by decide +kernel
theorem dC_Nam_putAll_4 : decode cC_Nam_putAll 4 = .ok (.invokevirtual 124, 3) := by decide +kernel
theorem dC_Nam_putAll_7 : decode cC_Nam_putAll 7 = .ok (.if_icmp .ge (18), 3) := by decide +kernel
theorem dC_Nam_putAll_10 : decode cC_Nam_putAll 10 = .ok (.aload_n 0, 1) := by decide +kernel
theorem dC_Nam_putAll_11 : decode cC_Nam_putAll 11 = .ok (.aload_n 1, 1) := by decide +kernel
theorem dC_Nam_putAll_12 : decode cC_Nam_putAll 12 = .ok (.iload_n 2, 1) := by decide +kernel
theorem dC_Nam_putAll_13 : decode cC_Nam_putAll 13 = .ok (.invokevirtual 130, 3) := by decide +kernel
theorem dC_Nam_putAll_16 : decode cC_Nam_putAll 16 = .ok (.invokevirtual 134, 3) := by decide +kernel
theorem dC_Nam_putAll_19 : decode cC_Nam_putAll 19 = .ok (.iinc 2 (1), 3) := by decide +kernel
theorem dC_Nam_putAll_22 : decode cC_Nam_putAll 22 = .ok (.goto (-20), 3) := by decide +kernel
theorem dC_Nam_putAll_25 : decode cC_Nam_putAll 25 = .ok (.return_, 1) := by decide +kernel
abbrev cC_Nam_enter : ByteArray := prog_7_method_11_code
def yC_Nam_enter : MethodName := ⟨R_Nam, "enter", "(Ljava/lang/String;)I"⟩
theorem dC_Nam_enter_0 : decode cC_Nam_enter 0 = .ok (.aload_n 0, 1) := by decide +kernel
theorem dC_Nam_enter_1 : decode cC_Nam_enter 1 = .ok (.aload_n 1, 1) := by decide +kernel
theorem dC_Nam_enter_2 : decode cC_Nam_enter 2 = .ok (.invokevirtual 137, 3) := by decide +kernel
theorem dC_Nam_enter_5 : decode cC_Nam_enter 5 = .ok (.aload_n 0, 1) := by decide +kernel
theorem dC_Nam_enter_6 : decode cC_Nam_enter 6 = .ok (.invokevirtual 141, 3) := by decide +kernel
theorem dC_Nam_enter_9 : decode cC_Nam_enter 9 = .ok (.ireturn, 1) := by decide +kernel
theorem gC_Nam_124 : GoodIn lw_gd (wsV R_Nam 124 R_Str yC_Str_length (.code yC_Str_length cC_Str_length 1 (some .int) :: lw_gd)) := lw_GV qc_110 qc_107 qc_108 qc_109 qc_9
theorem gC_Nam_130 : GoodIn lw_gd (wsV R_Nam 130 R_Str yC_Str_charAt (.code yC_Str_charAt cC_Str_charAt 2 (some .char) :: lw_gd)) := lw_GV qc_120 qc_117 qc_118 qc_119 qc_9
theorem gC_Nam_137 : GoodIn lw_gd (wsV R_Nam 137 R_Nam yC_Nam_putAll (.code yC_Nam_putAll cC_Nam_putAll 3 none :: lw_gd)) := lw_GV qc_106 qc_103 qc_105 qsc_2 qc_3
section
variable {p : Program} {l : Launch} {e : Env} {s : State} {m : MethodId} {args : Array Value} {below : List Frame} {meth : Method} {c : Code} {D : va_G} {dA : Nat → ClassId} {z : Nat → Nat} {o b i : Nat → Nat} {A : Nat → Prop}
def C_Nam_putAll_2 (N : Nat)  : Nat → Nat → Int32 → CS → Option ((Int32 × CS) × (Nat × Nat))
  | 0 => fun _ _ _ => none
  | n + 1 => fun k1 x2 sN => gd (decide (k1 < ex_N)) (cr (C_Str_length  k1) (fun r2 => (if r2 ≤ x2 then some (((0 : Int32), sN), (0, 0)) else gd (decide (k1 < ex_N)) (cr (C_Str_charAt  k1 x2) (fun r4 => ct (C_Nam_put  r4 sN) (fun r5 u6 => (C_Nam_putAll_2 N  n) k1 (x2 + (1 : Int32)) u6))))))
set_option maxHeartbeats 4000000 in
set_option maxRecDepth 100000 in
theorem bC_Nam_putAll_2 (N : Nat)  {r : Int32} {u : CS} {DC DS : Nat} (C : CxC R_Nam p s m args meth c cC_Nam_putAll 3 none D dA z A) : ∀ (n : Nat) (k1 : Nat) (x2 : Int32) (sN : CS) (dc ds kc ks : Nat) , C_Nam_putAll_2 N  n k1 x2 sN = some ((r, u), (dc, ds)) → ∀ (hdc : kc + dc ≤ DC) (hds : ks + ds ≤ DS) (b : Nat → Nat) (H : Heap) (locs : List Loc) (hW : WdC D A s (w_Nam dA o b sN) H locs) (ls : Array Slot) (hl : lv_has ls 3 [(0, .ref (o 16)), (1, .ref (sK z k1)), (2, .int x2)]), W p l e (rmC 4 144 DC DS) s m args below meth c H locs kc ks (MQ below (QC D A (fun Ws' ov => ∃ b' : Nat → Nat, Ws' = (w_Nam dA o b' u) ∧ ov = none)) args s DC DS A) (F0 m 2 ls []) := by
  have hx := C.1.1
  have hb := C.1.2.1
  have hown := C.1.2.2.2.2.1
  have hT := C.1.2.2.2.2.2.1
  intro n
  induction n with
  | zero => intro k1 x2 sN dc ds kc ks hM; cases hM
  | succ n hrec2 =>
    intro k1 x2 sN dc ds kc ks hM hdc hds b H locs hW ls hl
    rw [C_Nam_putAll_2] at hM
    refine lv_iload_n (pc := 2) hx hb dC_Nam_putAll_2 rfl (lv_at hl 2 rfl) ?_
    refine lv_aload_n (pc := 3) hx hb dC_Nam_putAll_3 rfl (lv_at hl 1 rfl) ?_
    obtain ⟨hg1, hM⟩ := gd_some hM
    obtain ⟨r2, hr2, hM⟩ := cr_some hM
    refine x_callK (pc := 4) (n' := 20) (Wc := []) (ov := some (.int r2)) C hW (kC_Str_length l D dA z (fun _ => 0) (fun _ => 0)  k1 hr2) [0, 1, 2, 3, 4, 5, 6, 7, 8, 9, 10, 11, 12, 13, 14, 15, 16, 17, 18, 19] rfl (by decide +kernel) rfl (ex_rS C.2.2.2 (of_decide_eq_true hg1) hW.2.2) gC_Nam_124 ⟨rfl, by decide, by decide, by decide +kernel⟩ ⟨Nat.le_of_ble_eq_true rfl, Nat.le_of_ble_eq_true rfl⟩ ⟨show _ ≤ DC by omega, show _ ≤ DS by omega⟩ (As := []) (n := 0) rfl hl.1 rfl (Nat.le_of_ble_eq_true rfl) dC_Nam_putAll_4 ?_
    refine lv_icmp_ge (pc := 7) (tgt := 25) hx hb dC_Nam_putAll_7 (by decide) (fun hc => ?_) (fun hc => ?_)
    · replace hM := it_t hc hM
      obtain ⟨rfl, rfl, rfl, rfl⟩ := sm_q hM
      exact x_retCv (pc := 25) C rfl hW ⟨_, rfl, rfl⟩ (by omega) (by omega) dC_Nam_putAll_25
    · replace hM := it_f hc hM
      refine lv_aload_n (pc := 10) hx hb dC_Nam_putAll_10 rfl (lv_at hl 0 rfl) ?_
      refine lv_aload_n (pc := 11) hx hb dC_Nam_putAll_11 rfl (lv_at hl 1 rfl) ?_
      refine lv_iload_n (pc := 12) hx hb dC_Nam_putAll_12 rfl (lv_at hl 2 rfl) ?_
      obtain ⟨hg3, hM⟩ := gd_some hM
      obtain ⟨r4, hr4, hM⟩ := cr_some hM
      refine x_callK (pc := 13) (n' := 20) (Wc := []) (ov := some (.int r4)) C hW (kC_Str_charAt l D dA z (fun _ => 0) (fun _ => 0)  k1 x2 hr4) [0, 1, 2, 3, 4, 5, 6, 7, 8, 9, 10, 11, 12, 13, 14, 15, 16, 17, 18, 19] rfl (by decide +kernel) rfl (ex_rS C.2.2.2 (of_decide_eq_true hg3) hW.2.2) gC_Nam_130 ⟨rfl, by decide, by decide, by decide +kernel⟩ ⟨Nat.le_of_ble_eq_true rfl, Nat.le_of_ble_eq_true rfl⟩ ⟨show _ ≤ DC by omega, show _ ≤ DS by omega⟩ (As := [.int x2]) (n := 1) rfl hl.1 rfl (Nat.le_of_ble_eq_true rfl) dC_Nam_putAll_13 ?_
      obtain ⟨r5, u6, da7, ea8, db9, eb10, hr5, hM, hqda7, hpda7⟩ := ct_some hM
      refine x_callC (pc := 16) (n' := 20) C hW (kC_Nam_put l D dA z o b  r4 sN hr5) [0, 1, 2, 3, 4, 5, 6, 7, 8, 9, 10, 11, 12, 13, 14, 15, 16, 17, 18, 19] rfl (by decide +kernel) rfl (ci := 2) rfl (q0 := 0) rfl gC_Nam_134 ⟨rfl, by decide, by decide, by decide +kernel⟩ ⟨Nat.le_of_ble_eq_true rfl, Nat.le_of_ble_eq_true rfl⟩ ⟨show _ + da7 ≤ DC by omega, show _ + ea8 ≤ DS by omega⟩ (As := [.int r4]) (n := 1) rfl hl.1 rfl (Nat.le_of_ble_eq_true rfl) dC_Nam_putAll_16 (fun Wc' ov H locs hPo hWn => ?_)
      obtain ⟨b11, rfl, rfl⟩ := hPo
      have hW := hWn (w_Nam dA o (mxs [1] b11 b) u6) rfl rfl
      generalize mxs [1] b11 b = b at hW
      refine lv_iinc (pc := 19) (v := x2 + (1 : Int32)) (lv' := [(2, .int (x2 + (1 : Int32))), (0, .ref (o 16)), (1, .ref (sK z k1))]) hx hb dC_Nam_putAll_19 hl (k := 2) rfl rfl (by decide) rfl (fun ls hl => ?_)
      refine lv_goto (pc := 22) (tgt := 2) hx hb dC_Nam_putAll_22 (by decide) ?_
      exact hrec2 _ _ _ _ _ _ _ hM (by omega) (by omega) _ _ _ hW _ (lv_sub hl [1, 2, 0] rfl)
def C_Nam_putAll (N : Nat) (k1 : Nat) (sN : CS) : Option ((Int32 × CS) × (Nat × Nat)) :=
  C_Nam_putAll_2 N  N k1 (0 : Int32) sN
set_option maxHeartbeats 4000000 in
set_option maxRecDepth 100000 in
theorem bC_Nam_putAll_0 (N : Nat)  {r : Int32} {u : CS} {DC DS : Nat} (C : CxC R_Nam p s m args meth c cC_Nam_putAll 3 none D dA z A) (k1 : Nat) (sN : CS) (dc ds kc ks : Nat) (hM : C_Nam_putAll N  k1 sN = some ((r, u), (dc, ds))) (hdc : kc + dc ≤ DC) (hds : ks + ds ≤ DS) (b : Nat → Nat) (H : Heap) (locs : List Loc) (hW : WdC D A s (w_Nam dA o b sN) H locs) (ls : Array Slot) (hl : lv_has ls 3 [(0, .ref (o 16)), (1, .ref (sK z k1))]) : W p l e (rmC 4 144 DC DS) s m args below meth c H locs kc ks (MQ below (QC D A (fun Ws' ov => ∃ b' : Nat → Nat, Ws' = (w_Nam dA o b' u) ∧ ov = none)) args s DC DS A) (F0 m 0 ls []) := by
  have hx := C.1.1
  have hb := C.1.2.1
  have hown := C.1.2.2.2.2.1
  have hT := C.1.2.2.2.2.2.1
  unfold C_Nam_putAll at hM
  refine lv_iconst (pc := 0) (v := 0) hx hb dC_Nam_putAll_0 (by decide) ?_
  refine lv_istore_n (pc := 1) (lv' := [(2, .int (0 : Int32)), (0, .ref (o 16)), (1, .ref (sK z k1))]) hx hb dC_Nam_putAll_1 rfl hl (by decide) rfl (fun ls hl => ?_)
  exact bC_Nam_putAll_2 N  C  N _ _ _ _ _ _ _ hM (by omega) (by omega) _ _ _ hW _ (lv_sub hl [1, 2, 0] rfl)
theorem kC_Nam_putAll (l : Launch) (D : va_G) (dA : Nat → ClassId) (z : Nat → Nat) (o b : Nat → Nat) (N : Nat) (k1 : Nat) (sN : CS) {r : Int32} {u : CS} {dc ds : Nat} (hM : C_Nam_putAll N k1 sN = some ((r, u), (dc, ds))) : KC l D dA z yC_Nam_putAll cC_Nam_putAll 3 none 4 144 dc ds (w_Nam dA o b sN) [.ref (o 16), .ref (sK z k1)] (fun Ws' ov => ∃ b' : Nat → Nat, Ws' = (w_Nam dA o b' u) ∧ ov = none) := x_enterC (by decide +kernel) (Nat.le_of_ble_eq_true rfl) (fun p e s m args below meth c A C _ hW ls hl => bC_Nam_putAll_0 N C k1 sN dc ds 0 0 hM (by omega) (by omega) b s.heap [] hW ls hl)
def C_Nam_enter (N : Nat) (k1 : Nat) (sN : CS) : Option ((Int32 × CS) × (Nat × Nat)) :=
  ct (C_Nam_putAll N k1 sN) (fun r1 u2 => ct (C_Nam_finish N u2) (fun r8 u9 => some ((r8, u9), (0, 0))))
set_option maxHeartbeats 4000000 in
set_option maxRecDepth 100000 in
theorem bC_Nam_enter_0 (N : Nat)  {r : Int32} {u : CS} {DC DS : Nat} (C : CxC R_Nam p s m args meth c cC_Nam_enter 2 (some .int) D dA z A) (k1 : Nat) (sN : CS) (dc ds kc ks : Nat) (hM : C_Nam_enter N  k1 sN = some ((r, u), (dc, ds))) (hdc : kc + dc ≤ DC) (hds : ks + ds ≤ DS) (b : Nat → Nat) (H : Heap) (locs : List Loc) (hW : WdC D A s (w_Nam dA o b sN) H locs) (ls : Array Slot) (hl : lv_has ls 2 [(0, .ref (o 16)), (1, .ref (sK z k1))]) : W p l e (rmC 5 166 DC DS) s m args below meth c H locs kc ks (MQ below (QC D A (fun Ws' ov => ∃ b' : Nat → Nat, Ws' = (w_Nam dA o b' u) ∧ ov = (some (.int r)))) args s DC DS A) (F0 m 0 ls []) := by
  have hx := C.1.1
  have hb := C.1.2.1
  have hown := C.1.2.2.2.2.1
  have hT := C.1.2.2.2.2.2.1
  unfold C_Nam_enter at hM
  refine lv_aload_n (pc := 0) hx hb dC_Nam_enter_0 rfl (lv_at hl 0 rfl) ?_
  refine lv_aload_n (pc := 1) hx hb dC_Nam_enter_1 rfl (lv_at hl 1 rfl) ?_
  obtain ⟨r1, u2, da3, ea4, db5, eb6, hr1, hM, hqda3, hpda3⟩ := ct_some hM
  refine x_callC (pc := 2) (n' := 20) C hW (kC_Nam_putAll l D dA z o b N k1 sN hr1) [0, 1, 2, 3, 4, 5, 6, 7, 8, 9, 10, 11, 12, 13, 14, 15, 16, 17, 18, 19] rfl (by decide +kernel) rfl (ci := 2) rfl (q0 := 0) rfl gC_Nam_137 ⟨rfl, by decide, by decide, by decide +kernel⟩ ⟨Nat.le_of_ble_eq_true rfl, Nat.le_of_ble_eq_true rfl⟩ ⟨show _ + da3 ≤ DC by omega, show _ + ea4 ≤ DS by omega⟩ (As := [.ref (sK z k1)]) (n := 1) rfl hl.1 rfl (Nat.le_of_ble_eq_true rfl) dC_Nam_enter_2 (fun Wc' ov H locs hPo hWn => ?_)
  obtain ⟨b7, rfl, rfl⟩ := hPo
  have hW := hWn (w_Nam dA o (mxs [1] b7 b) u2) rfl rfl
  generalize mxs [1] b7 b = b at hW
  refine lv_aload_n (pc := 5) hx hb dC_Nam_enter_5 rfl (lv_at hl 0 rfl) ?_
  obtain ⟨r8, u9, da10, ea11, db12, eb13, hr8, hM, hqda10, hpda10⟩ := ct_some hM
  refine x_callC (pc := 6) (n' := 20) C hW (kC_Nam_finish l D dA z o b N u2 hr8) [0, 1, 2, 3, 4, 5, 6, 7, 8, 9, 10, 11, 12, 13, 14, 15, 16, 17, 18, 19] rfl (by decide +kernel) rfl (ci := 2) rfl (q0 := 0) rfl gC_Nam_141 ⟨rfl, by decide, by decide, by decide +kernel⟩ ⟨Nat.le_of_ble_eq_true rfl, Nat.le_of_ble_eq_true rfl⟩ ⟨show _ + da10 ≤ DC by omega, show _ + ea11 ≤ DS by omega⟩ (As := []) (n := 0) rfl hl.1 rfl (Nat.le_of_ble_eq_true rfl) dC_Nam_enter_6 (fun Wc' ov H locs hPo hWn => ?_)
  obtain ⟨b14, rfl, rfl⟩ := hPo
  have hW := hWn (w_Nam dA o (mxs [1] b14 b) u9) rfl rfl
  generalize mxs [1] b14 b = b at hW
  obtain ⟨rfl, rfl, rfl, rfl⟩ := sm_q hM
  exact x_retCi (pc := 9) C rfl hW ⟨_, rfl, rfl⟩ (by omega) (by omega) dC_Nam_enter_9
theorem kC_Nam_enter (l : Launch) (D : va_G) (dA : Nat → ClassId) (z : Nat → Nat) (o b : Nat → Nat) (N : Nat) (k1 : Nat) (sN : CS) {r : Int32} {u : CS} {dc ds : Nat} (hM : C_Nam_enter N k1 sN = some ((r, u), (dc, ds))) : KC l D dA z yC_Nam_enter cC_Nam_enter 2 (some .int) 5 166 dc ds (w_Nam dA o b sN) [.ref (o 16), .ref (sK z k1)] (fun Ws' ov => ∃ b' : Nat → Nat, Ws' = (w_Nam dA o b' u) ∧ ov = (some (.int r))) := x_enterC (by decide +kernel) (Nat.le_of_ble_eq_true rfl) (fun p e s m args below meth c A C _ hW ls hl => bC_Nam_enter_0 N C k1 sN dc ds 0 0 hM (by omega) (by omega) b s.heap [] hW ls hl)
end
