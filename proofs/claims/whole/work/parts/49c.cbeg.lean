theorem qc_38 : (Jvm.Cond.classLink "LineAssemblerLaw" (8 : Nat) "LineAssembler") ∈ lw_gd := uc_0 (List.mem_of_getElem? (i := 38) (by decide +kernel)) (by decide +kernel)
theorem qc_39 : (Jvm.Cond.instantiable "LineAssembler" (10 : Nat)) ∈ lw_gd := uc_0 (List.mem_of_getElem? (i := 39) (by decide +kernel)) (by decide +kernel)
theorem qc_40 : (Jvm.Cond.methodLink "LineAssemblerLaw" (29 : Nat) ({ cls := "LineAssembler", name := "<init>", desc := "()V" } : Jvm.MethodName)) ∈ lw_gd := uc_0 (List.mem_of_getElem? (i := 40) (by decide +kernel)) (by decide +kernel)
theorem qc_41 : (Jvm.Cond.instanceMethod ({ cls := "LineAssembler", name := "<init>", desc := "()V" } : Jvm.MethodName)) ∈ lw_gd := uc_0 (List.mem_of_getElem? (i := 41) (by decide +kernel)) (by decide +kernel)
theorem qc_42 : (Jvm.Cond.code ({ cls := "LineAssembler", name := "<init>", desc := "()V" } : Jvm.MethodName) prog_1_method_1_code (1 : Nat) (Option.none : Option Jvm.ClassFile.FieldType)) ∈ lw_gd := uc_0 (List.mem_of_getElem? (i := 42) (by decide +kernel)) (by decide +kernel)
theorem qc_1477 : (Jvm.Cond.classLink "LineAssemblerLaw" (30 : Nat) "LineAssemblerModel") ∈ lw_gd := uc_6 (List.mem_of_getElem? (i := 37) (by decide +kernel)) (by decide +kernel)
theorem qc_1478 : (Jvm.Cond.instantiable "LineAssemblerModel" (40 : Nat)) ∈ lw_gd := uc_6 (List.mem_of_getElem? (i := 38) (by decide +kernel)) (by decide +kernel)
theorem qc_1479 : (Jvm.Cond.methodLink "LineAssemblerLaw" (32 : Nat) ({ cls := "LineAssemblerModel", name := "<init>", desc := "()V" } : Jvm.MethodName)) ∈ lw_gd := uc_6 (List.mem_of_getElem? (i := 39) (by decide +kernel)) (by decide +kernel)
theorem qc_1480 : (Jvm.Cond.instanceMethod ({ cls := "LineAssemblerModel", name := "<init>", desc := "()V" } : Jvm.MethodName)) ∈ lw_gd := uc_6 (List.mem_of_getElem? (i := 40) (by decide +kernel)) (by decide +kernel)
theorem qc_1481 : (Jvm.Cond.code ({ cls := "LineAssemblerModel", name := "<init>", desc := "()V" } : Jvm.MethodName) prog_14_method_1_code (1 : Nat) (Option.none : Option Jvm.ClassFile.FieldType)) ∈ lw_gd := uc_6 (List.mem_of_getElem? (i := 41) rfl) rfl
def Q0 (uN : CS) : LSt := (Z64, Z64, Z64, Z64, Z64, Z64, F0s, uN, Z64, P0s, I0s, M0s)
set_option maxHeartbeats 4000000 in
set_option maxRecDepth 100000 in
theorem law_begin {p : Program} {e : Env} {s : State} {m : MethodId} {below : List Frame} {meth : Method} {c : Code} (l : Launch) {b L : Nat} {xs : Nat → Int32} (htr : l.stackTraces = false) (hL : L ≤ 2048) (C0 : lw_At p s m meth c b L xs) (N : Nat) (INV : Nat → LSt → Nat → Nat → Prop) (hst : ∀ (k : Nat) (q : LSt) (cc d : Nat) (a0 a1 a2 a3 : Int32), k < 512 → INV k q cc d → ∃ (q' : LSt) (dc ds : Nat), LStep N (a0 &&& 15) a1 a2 a3 q q' dc ds ∧ INV (k + 1) q' (cc + dc) (d + ds)) (hrm : ∀ (k : Nat) (q : LSt) (cc d : Nat), INV k q cc d → cc ≤ 601024 ∧ d ≤ 7293034)
    {rN : Int32} {uN : CS} {cN sN : Nat} (hN : C_Nam_init N N0s = some ((rN, uN), (cN, sN))) (hI : INV 0 (Q0 uN) (64 + cN) (21920 + sN)) : W p l e room_1 s m #[Value.ref b] below meth c s.heap [] 0 0 (lw_Z below #[Value.ref b] s) (entryFrame m ([Value.ref b] : List Value).toArray 7) := by
  obtain ⟨hx, hb, hr, hml, hown, hts, hX, hbl, hlocks, hgv⟩ := id C0
  have hrm0 := hrm 0 _ _ _ hI
  obtain ⟨D, dA, hK⟩ := st_K hts
  obtain ⟨z, hEX⟩ := st_EX (A := fun q : Nat => s.heap.size ≤ q) dA hts hgv (fun a h => Nat.not_le.mpr h)
  have C : CxC "LineAssemblerLaw" p s m #[.ref b] meth c code 7 ret D dA z (fun q : Nat => s.heap.size ≤ q) := ⟨⟨hx, hb, hml, hr, hown, fun w h => hts w (List.mem_filter.mp h).1, hlocks⟩, hK, fun _ h => h, hEX⟩
  have hT := C.1.2.2.2.2.2.1
  have hl := lv_entry ([.ref b]) (n := 7) (Nat.le_of_ble_eq_true rfl)
  rw [lg_entry_eq]
  generalize (lg_sl ([.ref b]) ++ List.replicate (7 - (lg_sl ([.ref b])).length) Slot.unset).toArray = ls at hl ⊢
  have hl : lv_has ls 7 [(0, .ref b)] := hl
  have hW : WdC D (fun q : Nat => s.heap.size ≤ q) s [] s.heap [] := ⟨fun k q h => by simp at h, ⟨fun i j p q h => by simp at h, fun k q h => by simp at h⟩, va_S.rf⟩
  refine x_newC (pc := 0) (ci := 10) (vc := (R_Asm, F_Asm, 10)) (fs := [.null, .null, .null, .null, .null, .null, .null, .null, .null, .int 0]) (N := 10) C hW rfl rfl i_Asm tok_Asm qc_38 qc_39 qc_1 def_Asm (show _ ≤ 601024 by omega) (show _ ≤ 7293034 by omega) dW_0 (fun a1 H hW => ?_)
  refine lv_dup (pc := 3) hx hb dW_3 rfl ?_
  refine x_callI (pc := 4) (n' := 1) C hW (kC_Asm_init l D dA z N hN a1) [0] rfl (by decide +kernel) rfl qc_42 qc_40 qc_41 qc_1 rfl ⟨by decide, by decide, by decide +kernel⟩ ⟨Nat.le_of_ble_eq_true rfl, Nat.le_of_ble_eq_true rfl⟩ ⟨show _ ≤ 601024 by omega, show _ ≤ 7293034 by omega⟩ (As := []) (n := 0) rfl hl.1 rfl (Nat.le_of_ble_eq_true rfl) dW_4 (fun Wc' ov H locs hPo hWn => ?_)
  obtain ⟨o, b1, i1, rfl, rfl, rfl, rfl⟩ := hPo
  have hW := hWn [(w_Asm dA o b1 i1 Z64 Z64 Z64 Z64 Z64 Z64 F0s uN Z64 P0s I0s).flatten] rfl rfl
  refine lv_astore_n (pc := 7) (nL := 7) (lv' := [(1, .ref (o 144)), (0, .ref b)]) hx hb dW_7 rfl hl (by decide) rfl (fun ls hl => ?_)
  refine x_newC (pc := 8) (ci := 0) (vc := (RM, FM, 40)) (fs := [.null, .null, .null, .int 0, .null, .int 0, .null, .int 0, .int 0, .int 0, .null, .null, .null, .int 0, .null, .null, .int 0, .int 0, .int 0, .int 0, .int 0, .int 0, .int 0, .int 0, .int 0, .int 0, .int 0, .int 0, .int 0, .int 0, .int 0, .int 0, .int 0, .int 0, .int 0, .int 0, .int 0, .null, .int 0, .int 0]) (N := 40) C hW rfl rfl iM tM_ok qc_1477 qc_1478 qc_23 def_Mod (show _ ≤ 601024 by omega) (show _ ≤ 7293034 by omega) dW_8 (fun a2 H hW => ?_)
  refine lv_dup (pc := 11) hx hb dW_11 rfl ?_
  refine x_callI (pc := 12) (n' := 2) C hW (kC_Mod_init l D dA (zz o) a2) [1, 0] rfl (by decide +kernel) rfl qc_1481 qc_1479 qc_1480 qc_23 rfl ⟨by decide, by decide, by decide +kernel⟩ ⟨Nat.le_of_ble_eq_true rfl, Nat.le_of_ble_eq_true rfl⟩ ⟨show _ ≤ 601024 by omega, show _ ≤ 7293034 by omega⟩ (As := []) (n := 0) rfl hl.1 rfl (Nat.le_of_ble_eq_true rfl) dW_12 (fun Wc' ov H locs hPo hWn => ?_)
  obtain ⟨h, rfl, rfl, rfl⟩ := hPo
  have hW := hWn [(w_Asm dA o b1 i1 Z64 Z64 Z64 Z64 Z64 Z64 F0s uN Z64 P0s I0s).flatten, wM dA h M0s] rfl rfl
  refine lv_astore_n (pc := 15) (nL := 7) (lv' := [(2, .ref (h 0)), (1, .ref (o 144)), (0, .ref b)]) hx hb dW_15 rfl hl (by decide) rfl (fun ls hl => ?_)
  refine lv_iconst (pc := 16) (v := 1) hx hb dW_16 (by decide) ?_
  refine x_nwJ (pc := 17) (k := 1) C hW (by decide) (by decide) (by decide) (show _ ≤ 601024 by omega) (show _ ≤ 7293034 by omega) qc_1778 dW_17 (fun a3 H hW => ?_)
  refine lv_astore_n (pc := 19) (nL := 7) (lv' := [(3, .ref a3), (2, .ref (h 0)), (1, .ref (o 144)), (0, .ref b)]) hx hb dW_19 rfl hl (by decide) rfl (fun ls hl => ?_)
  refine lv_iconst (pc := 20) (v := 0) hx hb dW_20 (by decide) ?_
  refine lv_istore (pc := 21) (nL := 7) (lv' := [(4, .int 0), (3, .ref a3), (2, .ref (h 0)), (1, .ref (o 144)), (0, .ref b)]) hx hb dW_21 hl (by decide) rfl (fun ls hl => ?_)
  have hW := hW.eqf (Ws' := w_Asm dA o b1 i1 Z64 Z64 Z64 Z64 Z64 Z64 F0s uN Z64 P0s I0s ++ [wM dA h M0s, [(a3, .inl (dA 0, 1, .inr (.inl (fun _ => 0))))]]) (by rw [List.flatten_append]; rfl)
  have hW := hW.reord (Ws' := lwQ dA a3 (fun _ => 0) h o b1 i1 (Q0 uN)) [53, 52, 0, 1, 2, 3, 4, 5, 6, 7, 8, 9, 10, 11, 12, 13, 14, 15, 16, 17, 18, 19, 20, 21, 22, 23, 24, 25, 26, 27, 28, 29, 30, 31, 32, 33, 34, 35, 36, 37, 38, 39, 40, 41, 42, 43, 44, 45, 46, 47, 48, 49, 50, 51] 54 rfl (by decide +kernel) rfl
  refine W.widen (k := 64 + cN) (n := 21920 + sN) (by omega) (by omega) ?_
  exact law_loop htr N INV hst hrm C (fun _ h => h) hX hbl hL 512 0 rfl _ _ _ hI b1 i1 _ _ _ _ hW (lv_sub hl [4, 3, 2, 1, 0] rfl)
