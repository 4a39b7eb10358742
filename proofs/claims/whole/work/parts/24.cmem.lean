theorem qc_6 : (Jvm.Cond.initialized "java/lang/System") ∈ lw_gd := uc_0 (List.mem_of_getElem? (i := 6) (by decide +kernel)) (by decide +kernel)
theorem qc_63 : (Jvm.Cond.arrayClass Jvm.ClassFile.FieldType.int) ∈ lw_gd := uc_0 (List.mem_of_getElem? (i := 63) (by decide +kernel)) (by decide +kernel)
theorem qc_86 : (Jvm.Cond.methodLink "java/util/Arrays" (304 : Nat) ({ cls := "java/lang/Math", name := "min", desc := "(II)I" } : Jvm.MethodName)) ∈ lw_gd := uc_0 (List.mem_of_getElem? (i := 86) (by decide +kernel)) (by decide +kernel)
theorem qc_89 : (Jvm.Cond.methodLink "java/util/Arrays" (150 : Nat) ({ cls := "java/lang/System", name := "arraycopy", desc := "(Ljava/lang/Object;ILjava/lang/Object;II)V" } : Jvm.MethodName)) ∈ lw_gd := uc_0 (List.mem_of_getElem? (i := 89) (by decide +kernel)) (by decide +kernel)
theorem qc_90 : (Jvm.Cond.static ({ cls := "java/lang/System", name := "arraycopy", desc := "(Ljava/lang/Object;ILjava/lang/Object;II)V" } : Jvm.MethodName)) ∈ lw_gd := uc_0 (List.mem_of_getElem? (i := 90) (by decide +kernel)) (by decide +kernel)
theorem qc_91 : (Jvm.Cond.native ({ cls := "java/lang/System", name := "arraycopy", desc := "(Ljava/lang/Object;ILjava/lang/Object;II)V" } : Jvm.MethodName)) ∈ lw_gd := uc_0 (List.mem_of_getElem? (i := 91) (by decide +kernel)) (by decide +kernel)
section
variable {p : Program} {l : Launch} {e : Env} {R : Room} {s : State} {m : MethodId} {args : Array Value} {below : List Frame} {meth : Method} {c : Code} {H : Heap} {locs : List Loc} {cells slots : Nat} {Q : State → Prop} {pc : Nat} {ls : Array Slot} {rest : List Value} {cc : ByteArray} {nL : Nat} {rt : Option FieldType} {D : va_G} {dA : Nat → ClassId} {z : Nat → Nat} {A : Nat → Prop} {R0 : String} {Ws Ws' : List va_W}
theorem WdC.drop (hW : WdC D A s Ws H locs) (k : Nat) (h : Ws.flatten.eraseIdx k = Ws'.flatten) : WdC D A s Ws' H locs := by
  have hs : Ws'.flatten.Sublist Ws.flatten := h ▸ List.eraseIdx_sublist _ _
  refine ⟨cp_iff.mpr (fun q hq => cp_iff.mp hW.1 q (hs.subset hq)), cd_iff.mpr ⟨List.Pairwise.sublist hs (cd_iff.mp hW.2.1).1, fun q hq => (cd_iff.mp hW.2.1).2 q (hs.subset hq)⟩, hW.2.2⟩
theorem x_newI (C : CxC R0 p s m args meth c cc nL rt D dA z A) (hW : WdC D A s Ws H locs) {n : Int32} (hn : ¬ n < 0) (hbytes : n.toNatClampNeg * 4 ≤ 536870912) (hcells : cells + 1 ≤ R.cells) (hslots : slots + n.toNatClampNeg ≤ R.slots) (harr : Cond.arrayClass .int ∈ lw_gd) (hdg : decode cc pc = .ok (.newarray .int, 2))
    (kk : ∀ (q : Nat) (H1 : Heap), WdC D A s (Ws ++ [[(q, .inl (dA 2, n.toNatClampNeg, .inl (fun _ => 0)))]]) H1 locs → W p l e R s m args below meth c H1 locs (cells + 1) (slots + n.toNatClampNeg) Q (F0 m (pc + 2) ls (.ref q :: rest))) : W p l e R s m args below meth c H locs cells slots Q (F0 m pc ls (.int n :: rest)) := by
  obtain ⟨⟨hx, hb, hml, hrt, hown, hT, hlk⟩, hK, hA, hEX⟩ := C
  refine va_newa (atype := .int) (D := D) (cl := classes) (tys := tyC dA) (ws := Ws.flatten) (ty := .int) (a0 := (n.toNatClampNeg, .inl (fun _ => 0))) hx hb (hT _ harr) rfl hK hW.1 hW.2.1 hW.2.2 hA (fun cA => rfl) hn rfl hbytes hcells hslots hdg (fun q cA H1 hK1 hP hD hS => ?_)
  have h1 : s.vm.findClass ("[" ++ (FieldType.int).toString) = some cA := (hK1.2 5 (cA, .int) rfl).2
  have h2 : s.vm.findClass ("[" ++ (FieldType.int).toString) = some (dA 2) := (hK.2 2 (dA 2, .int) rfl).2
  have h3 : cA = dA 2 := Option.some.inj (h1.symm.trans h2)
  subst h3
  refine kk q H1 ⟨?_, ?_, hS⟩
  · rw [List.flatten_append]; exact hP
  · rw [List.flatten_append]; exact hD
end
/-- a new int array of n places -/
def C_newI (n : Int32) : Option ((Int32 × Unit) × (Nat × Nat)) := gd (!(decide (n < 0))) (gd (decide (n.toNatClampNeg * 4 ≤ 536870912)) (some (((0 : Int32), ()), (1, n.toNatClampNeg))))
theorem newI_some {n r : Int32} {u : Unit} {dc ds : Nat} (h : C_newI n = some ((r, u), (dc, ds))) : ¬ n < 0 ∧ n.toNatClampNeg * 4 ≤ 536870912 ∧ dc = 1 ∧ ds = n.toNatClampNeg := by
  obtain ⟨g1, h⟩ := gd_some h
  obtain ⟨g2, h⟩ := gd_some h
  obtain ⟨-, -, h3, h4⟩ := sm_q h
  simp only [Bool.not_eq_true', decide_eq_false_iff_not, decide_eq_true_eq] at g1 g2
  exact ⟨g1, g2, h3, h4⟩
/-- Arrays.copyOf(int[], n) where n isn't the old length: the new array's contents; one cell of n places -/
def C_copyOf (n : Int32) (g : Nat) (f : Nat → Int32) : Option ((Int32 × (Nat → Int32)) × (Nat × Nat)) :=
  gd (!(decide (n = nI g))) (gd (!(decide (n < 0))) (gd (decide (n.toNatClampNeg * 4 ≤ 536870912)) (gd (!(decide (jmin (nI g) n < 0))) (gd (decide ((jmin (nI g) n).toNatClampNeg ≤ g)) (gd (decide ((jmin (nI g) n).toNatClampNeg ≤ n.toNatClampNeg))
    (some (((0 : Int32), va_cpy f (fun _ => 0) 0 0 (jmin (nI g) n).toNatClampNeg), (1, n.toNatClampNeg))))))))
abbrev cC_Arr_copyOf : ByteArray := prog_38_method_123_code
def yC_Arr_copyOf : MethodName := ⟨"java/util/Arrays", "copyOf", "([II)[I"⟩
theorem dC_Arr_copyOf_0 : decode cC_Arr_copyOf 0 = .ok (.iload_n 1, 1) := by decide +kernel
theorem dC_Arr_copyOf_1 : decode cC_Arr_copyOf 1 = .ok (.aload_n 0, 1) := by decide +kernel
theorem dC_Arr_copyOf_2 : decode cC_Arr_copyOf 2 = .ok (.arraylength, 1) := by decide +kernel
theorem dC_Arr_copyOf_3 : decode cC_Arr_copyOf 3 = .ok (.if_icmp .ne (11), 3) := by decide +kernel
theorem dC_Arr_copyOf_14 : decode cC_Arr_copyOf 14 = .ok (.iload_n 1, 1) := by decide +kernel
theorem dC_Arr_copyOf_15 : decode cC_Arr_copyOf 15 = .ok (.newarray .int, 2) := by decide +kernel
theorem dC_Arr_copyOf_17 : decode cC_Arr_copyOf 17 = .ok (.astore_n 2, 1) := by decide +kernel
theorem dC_Arr_copyOf_18 : decode cC_Arr_copyOf 18 = .ok (.aload_n 0, 1) := by decide +kernel
theorem dC_Arr_copyOf_19 : decode cC_Arr_copyOf 19 = .ok (.iconst (0), 1) := by decide +kernel
theorem dC_Arr_copyOf_20 : decode cC_Arr_copyOf 20 = .ok (.aload_n 2, 1) := by decide +kernel
theorem dC_Arr_copyOf_21 : decode cC_Arr_copyOf 21 = .ok (.iconst (0), 1) := by decide +kernel
theorem dC_Arr_copyOf_22 : decode cC_Arr_copyOf 22 = .ok (.aload_n 0, 1) := by decide +kernel
theorem dC_Arr_copyOf_23 : decode cC_Arr_copyOf 23 = .ok (.arraylength, 1) := by decide +kernel
theorem dC_Arr_copyOf_24 : decode cC_Arr_copyOf 24 = .ok (.iload_n 1, 1) := by decide +kernel
theorem dC_Arr_copyOf_25 : decode cC_Arr_copyOf 25 = .ok (.invokestatic 304, 3) := by decide +kernel
theorem dC_Arr_copyOf_28 : decode cC_Arr_copyOf 28 = .ok (.invokestatic 150, 3) := by decide +kernel
theorem dC_Arr_copyOf_31 : decode cC_Arr_copyOf 31 = .ok (.aload_n 2, 1) := by decide +kernel
theorem dC_Arr_copyOf_32 : decode cC_Arr_copyOf 32 = .ok (.areturn, 1) := by decide +kernel
set_option maxHeartbeats 4000000 in
set_option maxRecDepth 100000 in
theorem kC_copyOf (l : Launch) (D : va_G) (dA : Nat → ClassId) (z : Nat → Nat) (a : Nat) (n : Int32) (g : Nat) (f : Nat → Int32) {r : Int32} {f' : Nat → Int32} {dc ds : Nat} (hM : C_copyOf n g f = some ((r, f'), (dc, ds))) :
    KC l D dA z yC_Arr_copyOf cC_Arr_copyOf 3 (some (.array .int)) 1 80 dc ds [[(a, .inl (dA 2, g, .inl f))]] [.ref a, .int n] (fun Ws' ov => ∃ q : Nat, Ws' = [[(a, .inl (dA 2, g, .inl f)), (q, .inl (dA 2, n.toNatClampNeg, .inl f'))]] ∧ ov = some (.ref q)) := by
  refine x_enterC (by decide +kernel) (Nat.le_of_ble_eq_true rfl) (fun p e s m args below meth c A C _ hW ls hl => ?_)
  have hx := C.1.1
  have hb := C.1.2.1
  have hown := C.1.2.2.2.2.1
  have hT := C.1.2.2.2.2.2.1
  have hl : lv_has ls 3 [(0, .ref a), (1, .int n)] := hl
  unfold C_copyOf at hM
  obtain ⟨g1, hM⟩ := gd_some hM
  obtain ⟨g2, hM⟩ := gd_some hM
  obtain ⟨g3, hM⟩ := gd_some hM
  obtain ⟨g4, hM⟩ := gd_some hM
  obtain ⟨g5, hM⟩ := gd_some hM
  obtain ⟨g6, hM⟩ := gd_some hM
  obtain ⟨rfl, rfl, rfl, rfl⟩ := sm_q hM
  simp only [Bool.not_eq_true', decide_eq_false_iff_not, decide_eq_true_eq] at g1 g2 g3 g4 g5 g6
  refine lv_iload_n (pc := 0) hx hb dC_Arr_copyOf_0 rfl (lv_at hl 1 rfl) ?_
  refine lv_aload_n (pc := 1) hx hb dC_Arr_copyOf_1 rfl (lv_at hl 0 rfl) ?_
  refine x_alenC (pc := 2) C hW 0 rfl dC_Arr_copyOf_2 ?_
  refine lv_icmp_ne (pc := 3) (tgt := 14) hx hb dC_Arr_copyOf_3 (by decide) (fun hc => ?_) (fun hc => absurd hc g1)
  refine lv_iload_n (pc := 14) hx hb dC_Arr_copyOf_14 rfl (lv_at hl 1 rfl) ?_
  refine x_newI (pc := 15) C hW g2 g3 (show 0 + 1 ≤ 1 by omega) (show 0 + n.toNatClampNeg ≤ n.toNatClampNeg by omega) qc_63 dC_Arr_copyOf_15 (fun q H hW => ?_)
  have hW : WdC D A s [[(a, .inl (dA 2, g, .inl f))], [(q, .inl (dA 2, n.toNatClampNeg, .inl (fun _ => 0)))]] H [] := hW
  refine lv_astore_n (pc := 17) (lv' := [(2, .ref q), (0, .ref a), (1, .int n)]) hx hb dC_Arr_copyOf_17 rfl hl (by decide) rfl (fun ls hl => ?_)
  refine lv_aload_n (pc := 18) hx hb dC_Arr_copyOf_18 rfl (lv_at hl 1 rfl) ?_
  refine lv_iconst (pc := 19) (v := 0) hx hb dC_Arr_copyOf_19 (by decide) ?_
  refine lv_aload_n (pc := 20) hx hb dC_Arr_copyOf_20 rfl (lv_at hl 0 rfl) ?_
  refine lv_iconst (pc := 21) (v := 0) hx hb dC_Arr_copyOf_21 (by decide) ?_
  refine lv_aload_n (pc := 22) hx hb dC_Arr_copyOf_22 rfl (lv_at hl 1 rfl) ?_
  refine x_alenC (pc := 23) C hW 0 rfl dC_Arr_copyOf_23 ?_
  refine lv_iload_n (pc := 24) hx hb dC_Arr_copyOf_24 rfl (lv_at hl 2 rfl) ?_
  refine va_mmin (pc := 25) hx hb (C.1.2.2.1.trans hl.1.symm) hown (hT _ qc_86) (hT _ qc_87) (hT _ qc_5) (hT _ qc_88) (Nat.le_of_ble_eq_true rfl) (Nat.le_of_ble_eq_true rfl) (by show 0 + 1 ≤ 1; omega) (by show 0 + n.toNatClampNeg ≤ n.toNatClampNeg; omega) dC_Arr_copyOf_25 ?_
  refine va_copyi (pc := 28) (D := D) (cl := classes) (tys := tyC dA) (ws := [[(a, .inl (dA 2, g, .inl f))], [(q, .inl (dA 2, n.toNatClampNeg, .inl (fun _ => 0)))]].flatten) (ty := .int) hx hb (C.1.2.2.1.trans hl.1.symm) hown (hT _ qc_89) (hT _ qc_91) (hT _ qc_90) (hT _ qc_6) C.2.1 hW.1 hW.2.1 hW.2.2 0 1 2 2 rfl rfl rfl rfl rfl (by decide) (by decide) g4 (by rw [show (0 : Int32).toNatClampNeg = 0 from rfl, Nat.zero_add]; exact g5) (by rw [show (0 : Int32).toNatClampNeg = 0 from rfl, Nat.zero_add]; exact g6) (fun i _ => rfl) (Nat.le_of_ble_eq_true rfl) (show (0 : Nat) + (nativeFrameWords "java/lang/System" "arraycopy" 5 + 11) ≤ 80 by decide +kernel) dC_Arr_copyOf_28 (fun H locs hP hD hS => ?_)
  have hW : WdC D A s [[(a, .inl (dA 2, g, .inl f)), (q, .inl (dA 2, n.toNatClampNeg, .inl (va_cpy f (fun _ => 0) 0 0 (jmin (nI g) n).toNatClampNeg)))]] H locs := ⟨hP, hD, hS⟩
  refine lv_aload_n (pc := 31) hx hb dC_Arr_copyOf_31 rfl (lv_at hl 0 rfl) ?_
  exact x_retCa (pc := 32) C rfl (Or.inr ⟨_, rfl⟩) hW ⟨q, rfl, rfl⟩ (by omega) (by omega) dC_Arr_copyOf_32
