theorem qc_2194 : (Jvm.Cond.fieldLink "LineAssembler$Names" (163 : Nat) "LineAssembler$Op" "spelling" "Ljava/lang/String;") ∈ lw_gd := uc_9 (List.mem_of_getElem? (i := 34) (by decide +kernel)) (by decide +kernel)
abbrev cC_Nam_enterVariant : ByteArray := prog_7_method_13_code
def yC_Nam_enterVariant : MethodName := ⟨R_Nam, "enterVariant", "(LLineAssembler$Op;Ljava/lang/String;II)V"⟩
theorem dC_Nam_enterVariant_0 : decode cC_Nam_enterVariant 0 = .ok (.aload_n 0, 1) := by decide +kernel
theorem dC_Nam_enterVariant_1 : decode cC_Nam_enterVariant 1 = .ok (.aload_n 1, 1) := by decide +kernel
theorem dC_Nam_enterVariant_2 : decode cC_Nam_enterVariant 2 = .ok (.getfield 163, 3) := by decide +kernel
theorem dC_Nam_enterVariant_5 : decode cC_Nam_enterVariant 5 = .ok (.invokevirtual 137, 3) := by decide +kernel
theorem dC_Nam_enterVariant_8 : decode cC_Nam_enterVariant 8 = .ok (.aload_n 0, 1) := by decide +kernel
theorem dC_Nam_enterVariant_9 : decode cC_Nam_enterVariant 9 = .ok (.aload_n 2, 1) := by decide +kernel
theorem dC_Nam_enterVariant_10 : decode cC_Nam_enterVariant 10 = .ok (.invokevirtual 137, 3) := by decide +kernel
theorem dC_Nam_enterVariant_13 : decode cC_Nam_enterVariant 13 = .ok (.aload_n 0, 1) := by decide +kernel
theorem dC_Nam_enterVariant_14 : decode cC_Nam_enterVariant 14 = .ok (.invokevirtual 141, 3) := by decide +kernel
theorem dC_Nam_enterVariant_17 : decode cC_Nam_enterVariant 17 = .ok (.pop, 1) := by decide +kernel
theorem dC_Nam_enterVariant_18 : decode cC_Nam_enterVariant 18 = .ok (.aload_n 0, 1) := by decide +kernel
theorem dC_Nam_enterVariant_19 : decode cC_Nam_enterVariant 19 = .ok (.getfield 19, 3) := by decide +kernel
theorem dC_Nam_enterVariant_22 : decode cC_Nam_enterVariant 22 = .ok (.iload_n 3, 1) := by decide +kernel
theorem dC_Nam_enterVariant_23 : decode cC_Nam_enterVariant 23 = .ok (.iconst (1), 1) := by decide +kernel
theorem dC_Nam_enterVariant_24 : decode cC_Nam_enterVariant 24 = .ok (.iadd, 1) := by decide +kernel
theorem dC_Nam_enterVariant_25 : decode cC_Nam_enterVariant 25 = .ok (.invokevirtual 48, 3) := by decide +kernel
theorem dC_Nam_enterVariant_28 : decode cC_Nam_enterVariant 28 = .ok (.aload_n 0, 1) := by decide +kernel
theorem dC_Nam_enterVariant_29 : decode cC_Nam_enterVariant 29 = .ok (.getfield 25, 3) := by decide +kernel
theorem dC_Nam_enterVariant_32 : decode cC_Nam_enterVariant 32 = .ok (.iload 4, 2) := by decide +kernel
theorem dC_Nam_enterVariant_34 : decode cC_Nam_enterVariant 34 = .ok (.invokevirtual 48, 3) := by decide +kernel
theorem dC_Nam_enterVariant_37 : decode cC_Nam_enterVariant 37 = .ok (.aload_n 0, 1) := by decide +kernel
theorem dC_Nam_enterVariant_38 : decode cC_Nam_enterVariant 38 = .ok (.getfield 22, 3) := by decide +kernel
theorem dC_Nam_enterVariant_41 : decode cC_Nam_enterVariant 41 = .ok (.iconst (0), 1) := by decide +kernel
theorem dC_Nam_enterVariant_42 : decode cC_Nam_enterVariant 42 = .ok (.invokevirtual 48, 3) := by decide +kernel
theorem dC_Nam_enterVariant_45 : decode cC_Nam_enterVariant 45 = .ok (.return_, 1) := by decide +kernel
section
variable {p : Program} {l : Launch} {e : Env} {s : State} {m : MethodId} {args : Array Value} {below : List Frame} {meth : Method} {c : Code} {D : va_G} {dA : Nat → ClassId} {z : Nat → Nat} {o b i : Nat → Nat} {A : Nat → Prop}
def C_Nam_enterVariant (N : Nat) (j1 : Nat) (k2 : Nat) (x3 : Int32) (x4 : Int32) (sN : CS) : Option ((Int32 × CS) × (Nat × Nat)) :=
  gd (decide (j1 < ex_nO)) (ct (C_Nam_putAll N (ex_spelling.getD j1 0) sN) (fun r2 u3 => ct (C_Nam_putAll N k2 u3) (fun r9 u10 => ct (C_Nam_finish N u10) (fun r16 u17 => ct (C_Row_add  (x3 + (1 : Int32)) (rg u17 2)) (fun r23 u24 => bnd (rs u17 2 u24) (fun sN30 => ct (C_Row_add  x4 (rg sN30 4)) (fun r31 u32 => bnd (rs sN30 4 u32) (fun sN38 => ct (C_Row_add  (0 : Int32) (rg sN38 3)) (fun r39 u40 => bnd (rs sN38 3 u40) (fun sN46 => some (((0 : Int32), sN46), (0, 0))))))))))))
set_option maxHeartbeats 4000000 in
set_option maxRecDepth 100000 in
theorem bC_Nam_enterVariant_0 (N : Nat)  {r : Int32} {u : CS} {DC DS : Nat} (C : CxC R_Nam p s m args meth c cC_Nam_enterVariant 5 none D dA z A) (j1 : Nat) (k2 : Nat) (x3 : Int32) (x4 : Int32) (sN : CS) (dc ds kc ks : Nat) (hM : C_Nam_enterVariant N  j1 k2 x3 x4 sN = some ((r, u), (dc, ds))) (hdc : kc + dc ≤ DC) (hds : ks + ds ≤ DS) (b : Nat → Nat) (H : Heap) (locs : List Loc) (hW : WdC D A s (w_Nam dA o b sN) H locs) (ls : Array Slot) (hl : lv_has ls 5 [(0, .ref (o 16)), (1, .ref (oP z j1)), (2, .ref (sK z k2)), (3, .int x3), (4, .int x4)]) : W p l e (rmC 5 166 DC DS) s m args below meth c H locs kc ks (MQ below (QC D A (fun Ws' ov => ∃ b' : Nat → Nat, Ws' = (w_Nam dA o b' u) ∧ ov = none)) args s DC DS A) (F0 m 0 ls []) := by
  have hx := C.1.1
  have hb := C.1.2.1
  have hown := C.1.2.2.2.2.1
  have hT := C.1.2.2.2.2.2.1
  unfold C_Nam_enterVariant at hM
  refine lv_aload_n (pc := 0) hx hb dC_Nam_enterVariant_0 rfl (lv_at hl 0 rfl) ?_
  refine lv_aload_n (pc := 1) hx hb dC_Nam_enterVariant_1 rfl (lv_at hl 1 rfl) ?_
  obtain ⟨hg1, hM⟩ := gd_some hM
  refine vk_getf (pc := 2) hx hb (ex_op_spelling C.2.2.2 (of_decide_eq_true hg1)) hW.2.2 hown (hT _ qc_2194) (fun _ h => h) dC_Nam_enterVariant_2 ?_
  obtain ⟨r2, u3, da4, ea5, db6, eb7, hr2, hM, hqda4, hpda4⟩ := ct_some hM
  refine x_callC (pc := 5) (n' := 20) C hW (kC_Nam_putAll l D dA z o b N (ex_spelling.getD j1 0) sN hr2) [0, 1, 2, 3, 4, 5, 6, 7, 8, 9, 10, 11, 12, 13, 14, 15, 16, 17, 18, 19] rfl (by decide +kernel) rfl (ci := 2) rfl (q0 := 0) rfl gC_Nam_137 ⟨rfl, by decide, by decide, by decide +kernel⟩ ⟨Nat.le_of_ble_eq_true rfl, Nat.le_of_ble_eq_true rfl⟩ ⟨show _ + da4 ≤ DC by omega, show _ + ea5 ≤ DS by omega⟩ (As := [.ref (sK z (ex_spelling.getD j1 0))]) (n := 1) rfl hl.1 rfl (Nat.le_of_ble_eq_true rfl) dC_Nam_enterVariant_5 (fun Wc' ov H locs hPo hWn => ?_)
  obtain ⟨b8, rfl, rfl⟩ := hPo
  have hW := hWn (w_Nam dA o (mxs [1] b8 b) u3) rfl rfl
  generalize mxs [1] b8 b = b at hW
  refine lv_aload_n (pc := 8) hx hb dC_Nam_enterVariant_8 rfl (lv_at hl 0 rfl) ?_
  refine lv_aload_n (pc := 9) hx hb dC_Nam_enterVariant_9 rfl (lv_at hl 2 rfl) ?_
  obtain ⟨r9, u10, da11, ea12, db13, eb14, hr9, hM, hqda11, hpda11⟩ := ct_some hM
  refine x_callC (pc := 10) (n' := 20) C hW (kC_Nam_putAll l D dA z o b N k2 u3 hr9) [0, 1, 2, 3, 4, 5, 6, 7, 8, 9, 10, 11, 12, 13, 14, 15, 16, 17, 18, 19] rfl (by decide +kernel) rfl (ci := 2) rfl (q0 := 0) rfl gC_Nam_137 ⟨rfl, by decide, by decide, by decide +kernel⟩ ⟨Nat.le_of_ble_eq_true rfl, Nat.le_of_ble_eq_true rfl⟩ ⟨show _ + da11 ≤ DC by omega, show _ + ea12 ≤ DS by omega⟩ (As := [.ref (sK z k2)]) (n := 1) rfl hl.1 rfl (Nat.le_of_ble_eq_true rfl) dC_Nam_enterVariant_10 (fun Wc' ov H locs hPo hWn => ?_)
  obtain ⟨b15, rfl, rfl⟩ := hPo
  have hW := hWn (w_Nam dA o (mxs [1] b15 b) u10) rfl rfl
  generalize mxs [1] b15 b = b at hW
  refine lv_aload_n (pc := 13) hx hb dC_Nam_enterVariant_13 rfl (lv_at hl 0 rfl) ?_
  obtain ⟨r16, u17, da18, ea19, db20, eb21, hr16, hM, hqda18, hpda18⟩ := ct_some hM
  refine x_callC (pc := 14) (n' := 20) C hW (kC_Nam_finish l D dA z o b N u10 hr16) [0, 1, 2, 3, 4, 5, 6, 7, 8, 9, 10, 11, 12, 13, 14, 15, 16, 17, 18, 19] rfl (by decide +kernel) rfl (ci := 2) rfl (q0 := 0) rfl gC_Nam_141 ⟨rfl, by decide, by decide, by decide +kernel⟩ ⟨Nat.le_of_ble_eq_true rfl, Nat.le_of_ble_eq_true rfl⟩ ⟨show _ + da18 ≤ DC by omega, show _ + ea19 ≤ DS by omega⟩ (As := []) (n := 0) rfl hl.1 rfl (Nat.le_of_ble_eq_true rfl) dC_Nam_enterVariant_14 (fun Wc' ov H locs hPo hWn => ?_)
  obtain ⟨b22, rfl, rfl⟩ := hPo
  have hW := hWn (w_Nam dA o (mxs [1] b22 b) u17) rfl rfl
  generalize mxs [1] b22 b = b at hW
  refine lv_pop (pc := 17) hx hb dC_Nam_enterVariant_17 rfl ?_
  refine lv_aload_n (pc := 18) hx hb dC_Nam_enterVariant_18 rfl (lv_at hl 0 rfl) ?_
  refine x_getC (pc := 19) C hW 0 rfl (ci := 2) rfl i_Nam 2 (by decide) qc_219 rfl rfl dC_Nam_enterVariant_19 ?_
  refine lv_iload_n (pc := 22) hx hb dC_Nam_enterVariant_22 rfl (lv_at hl 3 rfl) ?_
  refine lv_iconst (pc := 23) (v := 1) hx hb dC_Nam_enterVariant_23 (by decide) ?_
  refine lv_iadd (pc := 24) hx hb dC_Nam_enterVariant_24 ?_
  obtain ⟨r23, u24, da25, ea26, db27, eb28, hr23, hM, hqda25, hpda25⟩ := ct_some hM
  refine x_callC (pc := 25) (n' := 20) C hW (kC_Row_add l D dA z (fun _ => o 19) (fun _ => b 19)  (x3 + (1 : Int32)) (rg u17 2) hr23) [5, 6, 0, 1, 2, 3, 4, 7, 8, 9, 10, 11, 12, 13, 14, 15, 16, 17, 18, 19] rfl (by decide +kernel) rfl (ci := 1) rfl (q0 := 5) rfl gC_Nam_48 ⟨rfl, by decide, by decide, by decide +kernel⟩ ⟨Nat.le_of_ble_eq_true rfl, Nat.le_of_ble_eq_true rfl⟩ ⟨show _ + da25 ≤ DC by omega, show _ + ea26 ≤ DS by omega⟩ (As := [.int (x3 + (1 : Int32))]) (n := 1) rfl hl.1 rfl (Nat.le_of_ble_eq_true rfl) dC_Nam_enterVariant_25 (fun Wc' ov H locs hPo hWn => ?_)
  obtain ⟨b29, rfl, rfl⟩ := hPo
  have hW := hWn (w_Nam dA o (uN b 19 (b29 0)) (rs u17 2 u24)) rfl rfl
  generalize uN b 19 (b29 0) = b at hW
  obtain ⟨sN30, esN30, hM⟩ := bnd_some hM
  rw [← esN30] at hW
  refine lv_aload_n (pc := 28) hx hb dC_Nam_enterVariant_28 rfl (lv_at hl 0 rfl) ?_
  refine x_getC (pc := 29) C hW 0 rfl (ci := 2) rfl i_Nam 4 (by decide) qc_223 rfl rfl dC_Nam_enterVariant_29 ?_
  refine lv_iload (pc := 32) hx hb dC_Nam_enterVariant_32 (lv_at hl 4 rfl) ?_
  obtain ⟨r31, u32, da33, ea34, db35, eb36, hr31, hM, hqda33, hpda33⟩ := ct_some hM
  refine x_callC (pc := 34) (n' := 20) C hW (kC_Row_add l D dA z (fun _ => o 21) (fun _ => b 21)  x4 (rg sN30 4) hr31) [9, 10, 0, 1, 2, 3, 4, 5, 6, 7, 8, 11, 12, 13, 14, 15, 16, 17, 18, 19] rfl (by decide +kernel) rfl (ci := 1) rfl (q0 := 9) rfl gC_Nam_48 ⟨rfl, by decide, by decide, by decide +kernel⟩ ⟨Nat.le_of_ble_eq_true rfl, Nat.le_of_ble_eq_true rfl⟩ ⟨show _ + da33 ≤ DC by omega, show _ + ea34 ≤ DS by omega⟩ (As := [.int x4]) (n := 1) rfl hl.1 rfl (Nat.le_of_ble_eq_true rfl) dC_Nam_enterVariant_34 (fun Wc' ov H locs hPo hWn => ?_)
  obtain ⟨b37, rfl, rfl⟩ := hPo
  have hW := hWn (w_Nam dA o (uN b 21 (b37 0)) (rs sN30 4 u32)) rfl rfl
  generalize uN b 21 (b37 0) = b at hW
  obtain ⟨sN38, esN38, hM⟩ := bnd_some hM
  rw [← esN38] at hW
  refine lv_aload_n (pc := 37) hx hb dC_Nam_enterVariant_37 rfl (lv_at hl 0 rfl) ?_
  refine x_getC (pc := 38) C hW 0 rfl (ci := 2) rfl i_Nam 3 (by decide) qc_221 rfl rfl dC_Nam_enterVariant_38 ?_
  refine lv_iconst (pc := 41) (v := 0) hx hb dC_Nam_enterVariant_41 (by decide) ?_
  obtain ⟨r39, u40, da41, ea42, db43, eb44, hr39, hM, hqda41, hpda41⟩ := ct_some hM
  refine x_callC (pc := 42) (n' := 20) C hW (kC_Row_add l D dA z (fun _ => o 20) (fun _ => b 20)  (0 : Int32) (rg sN38 3) hr39) [7, 8, 0, 1, 2, 3, 4, 5, 6, 9, 10, 11, 12, 13, 14, 15, 16, 17, 18, 19] rfl (by decide +kernel) rfl (ci := 1) rfl (q0 := 7) rfl gC_Nam_48 ⟨rfl, by decide, by decide, by decide +kernel⟩ ⟨Nat.le_of_ble_eq_true rfl, Nat.le_of_ble_eq_true rfl⟩ ⟨show _ + da41 ≤ DC by omega, show _ + ea42 ≤ DS by omega⟩ (As := [.int (0 : Int32)]) (n := 1) rfl hl.1 rfl (Nat.le_of_ble_eq_true rfl) dC_Nam_enterVariant_42 (fun Wc' ov H locs hPo hWn => ?_)
  obtain ⟨b45, rfl, rfl⟩ := hPo
  have hW := hWn (w_Nam dA o (uN b 20 (b45 0)) (rs sN38 3 u40)) rfl rfl
  generalize uN b 20 (b45 0) = b at hW
  obtain ⟨sN46, esN46, hM⟩ := bnd_some hM
  rw [← esN46] at hW
  obtain ⟨rfl, rfl, rfl, rfl⟩ := sm_q hM
  exact x_retCv (pc := 45) C rfl hW ⟨_, rfl, rfl⟩ (by omega) (by omega) dC_Nam_enterVariant_45
theorem kC_Nam_enterVariant (l : Launch) (D : va_G) (dA : Nat → ClassId) (z : Nat → Nat) (o b : Nat → Nat) (N : Nat) (j1 : Nat) (k2 : Nat) (x3 : Int32) (x4 : Int32) (sN : CS) {r : Int32} {u : CS} {dc ds : Nat} (hM : C_Nam_enterVariant N j1 k2 x3 x4 sN = some ((r, u), (dc, ds))) : KC l D dA z yC_Nam_enterVariant cC_Nam_enterVariant 5 none 5 166 dc ds (w_Nam dA o b sN) [.ref (o 16), .ref (oP z j1), .ref (sK z k2), .int x3, .int x4] (fun Ws' ov => ∃ b' : Nat → Nat, Ws' = (w_Nam dA o b' u) ∧ ov = none) := x_enterC (by decide +kernel) (Nat.le_of_ble_eq_true rfl) (fun p e s m args below meth c A C _ hW ls hl => bC_Nam_enterVariant_0 N C j1 k2 x3 x4 sN dc ds 0 0 hM (by omega) (by omega) b s.heap [] hW ls hl)
end
