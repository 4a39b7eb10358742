abbrev cC_Nam_enterRow : ByteArray := prog_7_method_15_code
def yC_Nam_enterRow : MethodName := ⟨R_Nam, "enterRow", "(Ljava/lang/String;I)V"⟩
theorem dC_Nam_enterRow_0 : decode cC_Nam_enterRow 0 = .ok (.iload_n 2, 1) := by decide +kernel
theorem dC_Nam_enterRow_1 : decode cC_Nam_enterRow 1 = .ok (.istore_n 3, 1) := by decide +kernel
theorem dC_Nam_enterRow_2 : decode cC_Nam_enterRow 2 = .ok (.iconst (0), 1) := by decide +kernel
theorem dC_Nam_enterRow_3 : decode cC_Nam_enterRow 3 = .ok (.istore 4, 2) := by decide +kernel
theorem dC_Nam_enterRow_5 : decode cC_Nam_enterRow 5 = .ok (.iload 4, 2) := by decide +kernel
theorem dC_Nam_enterRow_7 : decode cC_Nam_enterRow 7 = .ok (.aload_n 1, 1) := by decide +kernel
theorem dC_Nam_enterRow_8 : decode cC_Nam_enterRow 8 = .ok (.invokevirtual 124, 3) := by decide +kernel
theorem dC_Nam_enterRow_11 : decode cC_Nam_enterRow 11 = .ok (.if_icmp .ge (41), 3) := by decide +kernel
theorem dC_Nam_enterRow_14 : decode cC_Nam_enterRow 14 = .ok (.aload_n 1, 1) := by decide +kernel
theorem dC_Nam_enterRow_15 : decode cC_Nam_enterRow 15 = .ok (.iload 4, 2) := by decide +kernel
theorem dC_Nam_enterRow_17 : decode cC_Nam_enterRow 17 = .ok (.invokevirtual 130, 3) := by decide +kernel
theorem dC_Nam_enterRow_20 : decode cC_Nam_enterRow 20 = .ok (.istore 5, 2) := by decide +kernel
theorem dC_Nam_enterRow_22 : decode cC_Nam_enterRow 22 = .ok (.iload 5, 2) := by decide +kernel
theorem dC_Nam_enterRow_24 : decode cC_Nam_enterRow 24 = .ok (.bipush (32), 2) := by decide +kernel
theorem dC_Nam_enterRow_26 : decode cC_Nam_enterRow 26 = .ok (.if_icmp .ne (14), 3) := by decide +kernel
theorem dC_Nam_enterRow_29 : decode cC_Nam_enterRow 29 = .ok (.aload_n 0, 1) := by decide +kernel
theorem dC_Nam_enterRow_30 : decode cC_Nam_enterRow 30 = .ok (.iload_n 3, 1) := by decide +kernel
theorem dC_Nam_enterRow_31 : decode cC_Nam_enterRow 31 = .ok (.invokevirtual 167, 3) := by decide +kernel
theorem dC_Nam_enterRow_34 : decode cC_Nam_enterRow 34 = .ok (.iinc 3 (1), 3) := by decide +kernel
theorem dC_Nam_enterRow_37 : decode cC_Nam_enterRow 37 = .ok (.goto (9), 3) := by decide +kernel
theorem dC_Nam_enterRow_40 : decode cC_Nam_enterRow 40 = .ok (.aload_n 0, 1) := by decide +kernel
theorem dC_Nam_enterRow_41 : decode cC_Nam_enterRow 41 = .ok (.iload 5, 2) := by decide +kernel
theorem dC_Nam_enterRow_43 : decode cC_Nam_enterRow 43 = .ok (.invokevirtual 134, 3) := by decide +kernel
theorem dC_Nam_enterRow_46 : decode cC_Nam_enterRow 46 = .ok (.iinc 4 (1), 3) := by decide +kernel
theorem dC_Nam_enterRow_49 : decode cC_Nam_enterRow 49 = .ok (.goto (-44), 3) := by decide +kernel
theorem dC_Nam_enterRow_52 : decode cC_Nam_enterRow 52 = .ok (.return_, 1) := by decide +kernel
section
variable {p : Program} {l : Launch} {e : Env} {s : State} {m : MethodId} {args : Array Value} {below : List Frame} {meth : Method} {c : Code} {D : va_G} {dA : Nat → ClassId} {z : Nat → Nat} {o b i : Nat → Nat} {A : Nat → Prop}
def C_Nam_enterRow_46 (N : Nat) (rec5 : Nat → Int32 → Int32 → CS → Option ((Int32 × CS) × (Nat × Nat))) (k1 : Nat) (x3 : Int32) (x4 : Int32) (sN : CS) : Option ((Int32 × CS) × (Nat × Nat)) :=
  rec5 k1 x3 (x4 + (1 : Int32)) sN
set_option maxHeartbeats 4000000 in
set_option maxRecDepth 100000 in
theorem bC_Nam_enterRow_46 (N : Nat) (rec5 : Nat → Int32 → Int32 → CS → Option ((Int32 × CS) × (Nat × Nat))) {r : Int32} {u : CS} {DC DS : Nat} (C : CxC R_Nam p s m args meth c cC_Nam_enterRow 6 none D dA z A) (hrec5 : ∀ (k1 : Nat) (x3 : Int32) (x4 : Int32) (sN : CS) (dc ds kc ks : Nat) , rec5 k1 x3 x4 sN = some ((r, u), (dc, ds)) → ∀ (hdc : kc + dc ≤ DC) (hds : ks + ds ≤ DS) (b : Nat → Nat) (H : Heap) (locs : List Loc) (hW : WdC D A s (w_Nam dA o b sN) H locs) (ls : Array Slot) (hl : lv_has ls 6 [(0, .ref (o 16)), (1, .ref (sK z k1)), (3, .int x3), (4, .int x4)]), W p l e (rmC 5 167 DC DS) s m args below meth c H locs kc ks (MQ below (QC D A (fun Ws' ov => ∃ b' : Nat → Nat, Ws' = (w_Nam dA o b' u) ∧ ov = none)) args s DC DS A) (F0 m 5 ls [])) (k1 : Nat) (x3 : Int32) (x4 : Int32) (sN : CS) (dc ds kc ks : Nat) (hM : C_Nam_enterRow_46 N rec5 k1 x3 x4 sN = some ((r, u), (dc, ds))) (hdc : kc + dc ≤ DC) (hds : ks + ds ≤ DS) (b : Nat → Nat) (H : Heap) (locs : List Loc) (hW : WdC D A s (w_Nam dA o b sN) H locs) (ls : Array Slot) (hl : lv_has ls 6 [(0, .ref (o 16)), (1, .ref (sK z k1)), (3, .int x3), (4, .int x4)]) : W p l e (rmC 5 167 DC DS) s m args below meth c H locs kc ks (MQ below (QC D A (fun Ws' ov => ∃ b' : Nat → Nat, Ws' = (w_Nam dA o b' u) ∧ ov = none)) args s DC DS A) (F0 m 46 ls []) := by
  have hx := C.1.1
  have hb := C.1.2.1
  have hown := C.1.2.2.2.2.1
  have hT := C.1.2.2.2.2.2.1
  unfold C_Nam_enterRow_46 at hM
  refine lv_iinc (pc := 46) (v := x4 + (1 : Int32)) (lv' := [(4, .int (x4 + (1 : Int32))), (0, .ref (o 16)), (1, .ref (sK z k1)), (3, .int x3)]) hx hb dC_Nam_enterRow_46 hl (k := 3) rfl rfl (by decide) rfl (fun ls hl => ?_)
  refine lv_goto (pc := 49) (tgt := 5) hx hb dC_Nam_enterRow_49 (by decide) ?_
  exact hrec5 _ _ _ _ _ _ _ _ hM (by omega) (by omega) _ _ _ hW _ (lv_sub hl [1, 2, 3, 0] rfl)
def C_Nam_enterRow_5 (N : Nat)  : Nat → Nat → Int32 → Int32 → CS → Option ((Int32 × CS) × (Nat × Nat))
  | 0 => fun _ _ _ _ => none
  | n + 1 => fun k1 x3 x4 sN => gd (decide (k1 < ex_N)) (cr (C_Str_length  k1) (fun r2 => (if r2 ≤ x4 then some (((0 : Int32), sN), (0, 0)) else gd (decide (k1 < ex_N)) (cr (C_Str_charAt  k1 x4) (fun r4 => (if r4 = (32 : Int32) then ct (C_Nam_finishRegister N x3 sN) (fun r12 u13 => C_Nam_enterRow_46 N (C_Nam_enterRow_5 N  n) k1 (x3 + (1 : Int32)) x4 u13) else ct (C_Nam_put  r4 sN) (fun r5 u6 => C_Nam_enterRow_46 N (C_Nam_enterRow_5 N  n) k1 x3 x4 u6)))))))
set_option maxHeartbeats 4000000 in
set_option maxRecDepth 100000 in
theorem bC_Nam_enterRow_5 (N : Nat)  {r : Int32} {u : CS} {DC DS : Nat} (C : CxC R_Nam p s m args meth c cC_Nam_enterRow 6 none D dA z A) : ∀ (n : Nat) (k1 : Nat) (x3 : Int32) (x4 : Int32) (sN : CS) (dc ds kc ks : Nat) , C_Nam_enterRow_5 N  n k1 x3 x4 sN = some ((r, u), (dc, ds)) → ∀ (hdc : kc + dc ≤ DC) (hds : ks + ds ≤ DS) (b : Nat → Nat) (H : Heap) (locs : List Loc) (hW : WdC D A s (w_Nam dA o b sN) H locs) (ls : Array Slot) (hl : lv_has ls 6 [(0, .ref (o 16)), (1, .ref (sK z k1)), (3, .int x3), (4, .int x4)]), W p l e (rmC 5 167 DC DS) s m args below meth c H locs kc ks (MQ below (QC D A (fun Ws' ov => ∃ b' : Nat → Nat, Ws' = (w_Nam dA o b' u) ∧ ov = none)) args s DC DS A) (F0 m 5 ls []) := by
  have hx := C.1.1
  have hb := C.1.2.1
  have hown := C.1.2.2.2.2.1
  have hT := C.1.2.2.2.2.2.1
  intro n
  induction n with
  | zero => intro k1 x3 x4 sN dc ds kc ks hM; cases hM
  | succ n hrec5 =>
    intro k1 x3 x4 sN dc ds kc ks hM hdc hds b H locs hW ls hl
    rw [C_Nam_enterRow_5] at hM
    refine lv_iload (pc := 5) hx hb dC_Nam_enterRow_5 (lv_at hl 3 rfl) ?_
    refine lv_aload_n (pc := 7) hx hb dC_Nam_enterRow_7 rfl (lv_at hl 1 rfl) ?_
    obtain ⟨hg1, hM⟩ := gd_some hM
    obtain ⟨r2, hr2, hM⟩ := cr_some hM
    refine x_callK (pc := 8) (n' := 20) (Wc := []) (ov := some (.int r2)) C hW (kC_Str_length l D dA z (fun _ => 0) (fun _ => 0)  k1 hr2) [0, 1, 2, 3, 4, 5, 6, 7, 8, 9, 10, 11, 12, 13, 14, 15, 16, 17, 18, 19] rfl (by decide +kernel) rfl (ex_rS C.2.2.2 (of_decide_eq_true hg1) hW.2.2) gC_Nam_124 ⟨rfl, by decide, by decide, by decide +kernel⟩ ⟨Nat.le_of_ble_eq_true rfl, Nat.le_of_ble_eq_true rfl⟩ ⟨show _ ≤ DC by omega, show _ ≤ DS by omega⟩ (As := []) (n := 0) rfl hl.1 rfl (Nat.le_of_ble_eq_true rfl) dC_Nam_enterRow_8 ?_
    refine lv_icmp_ge (pc := 11) (tgt := 52) hx hb dC_Nam_enterRow_11 (by decide) (fun hc => ?_) (fun hc => ?_)
    · replace hM := it_t hc hM
      obtain ⟨rfl, rfl, rfl, rfl⟩ := sm_q hM
      exact x_retCv (pc := 52) C rfl hW ⟨_, rfl, rfl⟩ (by omega) (by omega) dC_Nam_enterRow_52
    · replace hM := it_f hc hM
      refine lv_aload_n (pc := 14) hx hb dC_Nam_enterRow_14 rfl (lv_at hl 1 rfl) ?_
      refine lv_iload (pc := 15) hx hb dC_Nam_enterRow_15 (lv_at hl 3 rfl) ?_
      obtain ⟨hg3, hM⟩ := gd_some hM
      obtain ⟨r4, hr4, hM⟩ := cr_some hM
      refine x_callK (pc := 17) (n' := 20) (Wc := []) (ov := some (.int r4)) C hW (kC_Str_charAt l D dA z (fun _ => 0) (fun _ => 0)  k1 x4 hr4) [0, 1, 2, 3, 4, 5, 6, 7, 8, 9, 10, 11, 12, 13, 14, 15, 16, 17, 18, 19] rfl (by decide +kernel) rfl (ex_rS C.2.2.2 (of_decide_eq_true hg3) hW.2.2) gC_Nam_130 ⟨rfl, by decide, by decide, by decide +kernel⟩ ⟨Nat.le_of_ble_eq_true rfl, Nat.le_of_ble_eq_true rfl⟩ ⟨show _ ≤ DC by omega, show _ ≤ DS by omega⟩ (As := [.int x4]) (n := 1) rfl hl.1 rfl (Nat.le_of_ble_eq_true rfl) dC_Nam_enterRow_17 ?_
      refine lv_istore (pc := 20) (lv' := [(5, .int r4), (0, .ref (o 16)), (1, .ref (sK z k1)), (3, .int x3), (4, .int x4)]) hx hb dC_Nam_enterRow_20 hl (by decide) rfl (fun ls hl => ?_)
      refine lv_iload (pc := 22) hx hb dC_Nam_enterRow_22 (lv_at hl 0 rfl) ?_
      refine lv_bipush (pc := 24) (v := 32) hx hb dC_Nam_enterRow_24 (by decide) ?_
      refine lv_icmp_ne (pc := 26) (tgt := 40) hx hb dC_Nam_enterRow_26 (by decide) (fun hc => ?_) (fun hc => ?_)
      · replace hM := it_f hc hM
        refine lv_aload_n (pc := 40) hx hb dC_Nam_enterRow_40 rfl (lv_at hl 1 rfl) ?_
        refine lv_iload (pc := 41) hx hb dC_Nam_enterRow_41 (lv_at hl 0 rfl) ?_
        obtain ⟨r5, u6, da7, ea8, db9, eb10, hr5, hM, hqda7, hpda7⟩ := ct_some hM
        refine x_callC (pc := 43) (n' := 20) C hW (kC_Nam_put l D dA z o b  r4 sN hr5) [0, 1, 2, 3, 4, 5, 6, 7, 8, 9, 10, 11, 12, 13, 14, 15, 16, 17, 18, 19] rfl (by decide +kernel) rfl (ci := 2) rfl (q0 := 0) rfl gC_Nam_134 ⟨rfl, by decide, by decide, by decide +kernel⟩ ⟨Nat.le_of_ble_eq_true rfl, Nat.le_of_ble_eq_true rfl⟩ ⟨show _ + da7 ≤ DC by omega, show _ + ea8 ≤ DS by omega⟩ (As := [.int r4]) (n := 1) rfl hl.1 rfl (Nat.le_of_ble_eq_true rfl) dC_Nam_enterRow_43 (fun Wc' ov H locs hPo hWn => ?_)
        obtain ⟨b11, rfl, rfl⟩ := hPo
        have hW := hWn (w_Nam dA o (mxs [1] b11 b) u6) rfl rfl
        generalize mxs [1] b11 b = b at hW
        exact bC_Nam_enterRow_46 N _ C hrec5 _ _ _ _ _ _ _ _ hM (by omega) (by omega) _ _ _ hW _ (lv_sub hl [1, 2, 3, 4] rfl)
      · replace hM := it_t hc hM
        refine lv_aload_n (pc := 29) hx hb dC_Nam_enterRow_29 rfl (lv_at hl 1 rfl) ?_
        refine lv_iload_n (pc := 30) hx hb dC_Nam_enterRow_30 rfl (lv_at hl 3 rfl) ?_
        obtain ⟨r12, u13, da14, ea15, db16, eb17, hr12, hM, hqda14, hpda14⟩ := ct_some hM
        refine x_callC (pc := 31) (n' := 20) C hW (kC_Nam_finishRegister l D dA z o b N x3 sN hr12) [0, 1, 2, 3, 4, 5, 6, 7, 8, 9, 10, 11, 12, 13, 14, 15, 16, 17, 18, 19] rfl (by decide +kernel) rfl (ci := 2) rfl (q0 := 0) rfl gC_Nam_167 ⟨rfl, by decide, by decide, by decide +kernel⟩ ⟨Nat.le_of_ble_eq_true rfl, Nat.le_of_ble_eq_true rfl⟩ ⟨show _ + da14 ≤ DC by omega, show _ + ea15 ≤ DS by omega⟩ (As := [.int x3]) (n := 1) rfl hl.1 rfl (Nat.le_of_ble_eq_true rfl) dC_Nam_enterRow_31 (fun Wc' ov H locs hPo hWn => ?_)
        obtain ⟨b18, rfl, rfl⟩ := hPo
        have hW := hWn (w_Nam dA o (mxs [1] b18 b) u13) rfl rfl
        generalize mxs [1] b18 b = b at hW
        refine lv_iinc (pc := 34) (v := x3 + (1 : Int32)) (lv' := [(3, .int (x3 + (1 : Int32))), (5, .int r4), (0, .ref (o 16)), (1, .ref (sK z k1)), (4, .int x4)]) hx hb dC_Nam_enterRow_34 hl (k := 3) rfl rfl (by decide) rfl (fun ls hl => ?_)
        refine lv_goto (pc := 37) (tgt := 46) hx hb dC_Nam_enterRow_37 (by decide) ?_
        exact bC_Nam_enterRow_46 N _ C hrec5 _ _ _ _ _ _ _ _ hM (by omega) (by omega) _ _ _ hW _ (lv_sub hl [2, 3, 0, 4] rfl)
def C_Nam_enterRow (N : Nat) (k1 : Nat) (x2 : Int32) (sN : CS) : Option ((Int32 × CS) × (Nat × Nat)) :=
  C_Nam_enterRow_5 N  N k1 x2 (0 : Int32) sN
set_option maxHeartbeats 4000000 in
set_option maxRecDepth 100000 in
theorem bC_Nam_enterRow_0 (N : Nat)  {r : Int32} {u : CS} {DC DS : Nat} (C : CxC R_Nam p s m args meth c cC_Nam_enterRow 6 none D dA z A) (k1 : Nat) (x2 : Int32) (sN : CS) (dc ds kc ks : Nat) (hM : C_Nam_enterRow N  k1 x2 sN = some ((r, u), (dc, ds))) (hdc : kc + dc ≤ DC) (hds : ks + ds ≤ DS) (b : Nat → Nat) (H : Heap) (locs : List Loc) (hW : WdC D A s (w_Nam dA o b sN) H locs) (ls : Array Slot) (hl : lv_has ls 6 [(0, .ref (o 16)), (1, .ref (sK z k1)), (2, .int x2)]) : W p l e (rmC 5 167 DC DS) s m args below meth c H locs kc ks (MQ below (QC D A (fun Ws' ov => ∃ b' : Nat → Nat, Ws' = (w_Nam dA o b' u) ∧ ov = none)) args s DC DS A) (F0 m 0 ls []) := by
  have hx := C.1.1
  have hb := C.1.2.1
  have hown := C.1.2.2.2.2.1
  have hT := C.1.2.2.2.2.2.1
  unfold C_Nam_enterRow at hM
  refine lv_iload_n (pc := 0) hx hb dC_Nam_enterRow_0 rfl (lv_at hl 2 rfl) ?_
  refine lv_istore_n (pc := 1) (lv' := [(3, .int x2), (0, .ref (o 16)), (1, .ref (sK z k1)), (2, .int x2)]) hx hb dC_Nam_enterRow_1 rfl hl (by decide) rfl (fun ls hl => ?_)
  refine lv_iconst (pc := 2) (v := 0) hx hb dC_Nam_enterRow_2 (by decide) ?_
  refine lv_istore (pc := 3) (lv' := [(4, .int (0 : Int32)), (3, .int x2), (0, .ref (o 16)), (1, .ref (sK z k1)), (2, .int x2)]) hx hb dC_Nam_enterRow_3 hl (by decide) rfl (fun ls hl => ?_)
  exact bC_Nam_enterRow_5 N  C  N _ _ _ _ _ _ _ _ hM (by omega) (by omega) _ _ _ hW _ (lv_sub hl [2, 3, 1, 0] rfl)
theorem kC_Nam_enterRow (l : Launch) (D : va_G) (dA : Nat → ClassId) (z : Nat → Nat) (o b : Nat → Nat) (N : Nat) (k1 : Nat) (x2 : Int32) (sN : CS) {r : Int32} {u : CS} {dc ds : Nat} (hM : C_Nam_enterRow N k1 x2 sN = some ((r, u), (dc, ds))) : KC l D dA z yC_Nam_enterRow cC_Nam_enterRow 6 none 5 167 dc ds (w_Nam dA o b sN) [.ref (o 16), .ref (sK z k1), .int x2] (fun Ws' ov => ∃ b' : Nat → Nat, Ws' = (w_Nam dA o b' u) ∧ ov = none) := x_enterC (by decide +kernel) (Nat.le_of_ble_eq_true rfl) (fun p e s m args below meth c A C _ hW ls hl => bC_Nam_enterRow_0 N C k1 x2 sN dc ds 0 0 hM (by omega) (by omega) b s.heap [] hW ls hl)
end
