theorem qc_11 : (Jvm.Cond.initialized "jdk/internal/util/Preconditions") ∈ lw_gd := uc_0 (List.mem_of_getElem? (i := 11) (by decide +kernel)) (by decide +kernel)
theorem qc_17 : (Jvm.Cond.initialized "java/util/ArrayList") ∈ lw_gd := uc_0 (List.mem_of_getElem? (i := 17) (by decide +kernel)) (by decide +kernel)
theorem qc_34 : (Jvm.Cond.initialized "java/util/Objects") ∈ lw_gd := uc_0 (List.mem_of_getElem? (i := 34) (by decide +kernel)) (by decide +kernel)
theorem qc_134 : (Jvm.Cond.static ({ cls := "jdk/internal/util/Preconditions", name := "checkIndex", desc := "(IILjava/util/function/BiFunction;)I" } : Jvm.MethodName)) ∈ lw_gd := uc_0 (List.mem_of_getElem? (i := 134) (by decide +kernel)) (by decide +kernel)
theorem qc_135 : (Jvm.Cond.code ({ cls := "jdk/internal/util/Preconditions", name := "checkIndex", desc := "(IILjava/util/function/BiFunction;)I" } : Jvm.MethodName) prog_45_method_11_code (3 : Nat) (Option.some Jvm.ClassFile.FieldType.int)) ∈ lw_gd := uc_0 (List.mem_of_getElem? (i := 135) (by decide +kernel)) (by decide +kernel)
theorem qc_318 : (Jvm.Cond.fieldLink "java/util/ArrayList" (9 : Nat) "java/util/ArrayList" "elementData" "[Ljava/lang/Object;") ∈ lw_gd := uc_1 (List.mem_of_getElem? (i := 78) (by decide +kernel)) (by decide +kernel)
theorem qc_319 : (Jvm.Cond.fieldLink "java/util/ArrayList" (48 : Nat) "java/util/ArrayList" "size" "I") ∈ lw_gd := uc_1 (List.mem_of_getElem? (i := 79) (by decide +kernel)) (by decide +kernel)
theorem qc_983 : (Jvm.Cond.methodLink "java/util/ArrayList" (118 : Nat) ({ cls := "java/util/Objects", name := "checkIndex", desc := "(II)I" } : Jvm.MethodName)) ∈ lw_gd := uc_4 (List.mem_of_getElem? (i := 23) (by decide +kernel)) (by decide +kernel)
theorem qc_984 : (Jvm.Cond.static ({ cls := "java/util/Objects", name := "checkIndex", desc := "(II)I" } : Jvm.MethodName)) ∈ lw_gd := uc_4 (List.mem_of_getElem? (i := 24) (by decide +kernel)) (by decide +kernel)
theorem qc_985 : (Jvm.Cond.code ({ cls := "java/util/Objects", name := "checkIndex", desc := "(II)I" } : Jvm.MethodName) prog_41_method_17_code (2 : Nat) (Option.some Jvm.ClassFile.FieldType.int)) ∈ lw_gd := uc_4 (List.mem_of_getElem? (i := 25) (by decide +kernel)) (by decide +kernel)
theorem qc_986 : (Jvm.Cond.methodLink "java/util/Objects" (105 : Nat) ({ cls := "jdk/internal/util/Preconditions", name := "checkIndex", desc := "(IILjava/util/function/BiFunction;)I" } : Jvm.MethodName)) ∈ lw_gd := uc_4 (List.mem_of_getElem? (i := 26) (by decide +kernel)) (by decide +kernel)
theorem qc_987 : (Jvm.Cond.methodLink "java/util/ArrayList" (123 : Nat) ({ cls := "java/util/ArrayList", name := "elementData", desc := "(I)Ljava/lang/Object;" } : Jvm.MethodName)) ∈ lw_gd := uc_4 (List.mem_of_getElem? (i := 27) (by decide +kernel)) (by decide +kernel)
theorem qc_988 : (Jvm.Cond.instanceMethod ({ cls := "java/util/ArrayList", name := "elementData", desc := "(I)Ljava/lang/Object;" } : Jvm.MethodName)) ∈ lw_gd := uc_4 (List.mem_of_getElem? (i := 28) (by decide +kernel)) (by decide +kernel)
theorem qc_989 : (Jvm.Cond.selects "java/util/ArrayList" ({ cls := "java/util/ArrayList", name := "elementData", desc := "(I)Ljava/lang/Object;" } : Jvm.MethodName) ({ cls := "java/util/ArrayList", name := "elementData", desc := "(I)Ljava/lang/Object;" } : Jvm.MethodName)) ∈ lw_gd := uc_4 (List.mem_of_getElem? (i := 29) (by decide +kernel)) (by decide +kernel)
theorem qc_990 : (Jvm.Cond.code ({ cls := "java/util/ArrayList", name := "elementData", desc := "(I)Ljava/lang/Object;" } : Jvm.MethodName) prog_37_method_18_code (2 : Nat) (Option.some (Jvm.ClassFile.FieldType.object "java/lang/Object"))) ∈ lw_gd := uc_4 (List.mem_of_getElem? (i := 30) (by decide +kernel)) (by decide +kernel)
abbrev cC_Pre : ByteArray := prog_45_method_11_code
def yC_Pre : MethodName := ⟨"jdk/internal/util/Preconditions", "checkIndex", "(IILjava/util/function/BiFunction;)I"⟩
theorem dC_Pre_0 : decode cC_Pre 0 = .ok (.iload_n 0, 1) := by decide +kernel
theorem dC_Pre_1 : decode cC_Pre 1 = .ok (.ifCond .lt (8), 3) := by decide +kernel
theorem dC_Pre_4 : decode cC_Pre 4 = .ok (.iload_n 0, 1) := by decide +kernel
theorem dC_Pre_5 : decode cC_Pre 5 = .ok (.iload_n 1, 1) := by decide +kernel
theorem dC_Pre_6 : decode cC_Pre 6 = .ok (.if_icmp .lt (10), 3) := by decide +kernel
theorem dC_Pre_16 : decode cC_Pre 16 = .ok (.iload_n 0, 1) := by decide +kernel
theorem dC_Pre_17 : decode cC_Pre 17 = .ok (.ireturn, 1) := by decide +kernel
abbrev cC_Chk : ByteArray := prog_41_method_17_code
def yC_Chk : MethodName := ⟨"java/util/Objects", "checkIndex", "(II)I"⟩
theorem dC_Chk_0 : decode cC_Chk 0 = .ok (.iload_n 0, 1) := by decide +kernel
theorem dC_Chk_1 : decode cC_Chk 1 = .ok (.iload_n 1, 1) := by decide +kernel
theorem dC_Chk_2 : decode cC_Chk 2 = .ok (.aconst_null, 1) := by decide +kernel
theorem dC_Chk_3 : decode cC_Chk 3 = .ok (.invokestatic 105, 3) := by decide +kernel
theorem dC_Chk_6 : decode cC_Chk 6 = .ok (.ireturn, 1) := by decide +kernel
abbrev cC_Lsize : ByteArray := prog_37_method_8_code
def yC_Lsize : MethodName := ⟨R_Lst, "size", "()I"⟩
theorem dC_Lsize_0 : decode cC_Lsize 0 = .ok (.aload_n 0, 1) := by decide +kernel
theorem dC_Lsize_1 : decode cC_Lsize 1 = .ok (.getfield 48, 3) := by decide +kernel
theorem dC_Lsize_4 : decode cC_Lsize 4 = .ok (.ireturn, 1) := by decide +kernel
abbrev cC_Lelem : ByteArray := prog_37_method_18_code
def yC_Lelem : MethodName := ⟨R_Lst, "elementData", "(I)Ljava/lang/Object;"⟩
theorem dC_Lelem_0 : decode cC_Lelem 0 = .ok (.aload_n 0, 1) := by decide +kernel
theorem dC_Lelem_1 : decode cC_Lelem 1 = .ok (.getfield 9, 3) := by decide +kernel
theorem dC_Lelem_4 : decode cC_Lelem 4 = .ok (.iload_n 1, 1) := by decide +kernel
theorem dC_Lelem_5 : decode cC_Lelem 5 = .ok (.aaload, 1) := by decide +kernel
theorem dC_Lelem_6 : decode cC_Lelem 6 = .ok (.areturn, 1) := by decide +kernel
abbrev cC_Lget : ByteArray := prog_37_method_20_code
def yC_Lget : MethodName := ⟨R_Lst, "get", "(I)Ljava/lang/Object;"⟩
theorem dC_Lget_0 : decode cC_Lget 0 = .ok (.iload_n 1, 1) := by decide +kernel
theorem dC_Lget_1 : decode cC_Lget 1 = .ok (.aload_n 0, 1) := by decide +kernel
theorem dC_Lget_2 : decode cC_Lget 2 = .ok (.getfield 48, 3) := by decide +kernel
theorem dC_Lget_5 : decode cC_Lget 5 = .ok (.invokestatic 118, 3) := by decide +kernel
theorem dC_Lget_8 : decode cC_Lget 8 = .ok (.pop, 1) := by decide +kernel
theorem dC_Lget_9 : decode cC_Lget 9 = .ok (.aload_n 0, 1) := by decide +kernel
theorem dC_Lget_10 : decode cC_Lget 10 = .ok (.iload_n 1, 1) := by decide +kernel
theorem dC_Lget_11 : decode cC_Lget 11 = .ok (.invokevirtual 123, 3) := by decide +kernel
theorem dC_Lget_14 : decode cC_Lget 14 = .ok (.areturn, 1) := by decide +kernel
abbrev rm_pre : Room := { frames := 0, cells := 0, slots := 0, locals := 0 }
abbrev rm_obj : Room := { frames := 1, cells := 0, slots := 0, locals := 40 }
set_option maxHeartbeats 4000000 in
set_option maxRecDepth 100000 in
theorem kC_Pre (l : Launch) (x0 x1 : Int32) (h0 : ¬ x0 < 0) (h1 : x0 < x1) : KS l yC_Pre cC_Pre 3 (some .int) rm_pre [.int x0, .int x1, .null] (some (.int x0)) := by
  refine x_enterS (by decide +kernel) (Nat.le_of_ble_eq_true rfl) (fun p e s m args below meth c C ls hl => ?_)
  have hx := C.1
  have hb := C.2.1
  have hl : lv_has ls 3 [(0, .int x0), (1, .int x1), (2, .null)] := hl
  refine lv_iload_n (pc := 0) hx hb dC_Pre_0 rfl (lv_at hl 0 rfl) ?_
  refine lv_if_lt (pc := 1) (tgt := 9) hx hb dC_Pre_1 (by decide) (fun hc => absurd hc h0) (fun hc => ?_)
  refine lv_iload_n (pc := 4) hx hb dC_Pre_4 rfl (lv_at hl 0 rfl) ?_
  refine lv_iload_n (pc := 5) hx hb dC_Pre_5 rfl (lv_at hl 1 rfl) ?_
  refine lv_icmp_lt (pc := 6) (tgt := 16) hx hb dC_Pre_6 (by decide) (fun hc => ?_) (fun hc => absurd h1 hc)
  refine lv_iload_n (pc := 16) hx hb dC_Pre_16 rfl (lv_at hl 0 rfl) ?_
  exact x_retS (pc := 17) C rfl dC_Pre_17
set_option maxHeartbeats 4000000 in
set_option maxRecDepth 100000 in
theorem kC_Chk (l : Launch) (x0 x1 : Int32) (h0 : ¬ x0 < 0) (h1 : x0 < x1) : KS l yC_Chk cC_Chk 2 (some .int) rm_obj [.int x0, .int x1] (some (.int x0)) := by
  refine x_enterS (by decide +kernel) (Nat.le_of_ble_eq_true rfl) (fun p e s m args below meth c C ls hl => ?_)
  have hx := C.1
  have hb := C.2.1
  have hl : lv_has ls 2 [(0, .int x0), (1, .int x1)] := hl
  refine lv_iload_n (pc := 0) hx hb dC_Chk_0 rfl (lv_at hl 0 rfl) ?_
  refine lv_iload_n (pc := 1) hx hb dC_Chk_1 rfl (lv_at hl 1 rfl) ?_
  refine lv_null (pc := 2) hx hb dC_Chk_2 ?_
  refine x_callU (pc := 3) (ov := some (.int x0)) C (kC_Pre l x0 x1 h0 h1) qc_135 qc_986 qc_134 qc_11 ⟨by decide, by decide, by decide +kernel⟩ ⟨rfl, rfl⟩ ⟨by decide, by decide⟩ ⟨by decide, by decide⟩ (As := [.int x0, .int x1, .null]) (n := 3) rfl hl.1 rfl (Nat.le_of_ble_eq_true rfl) dC_Chk_3 ?_
  exact x_retS (pc := 6) C rfl dC_Chk_6
abbrev lobj (ob a : Nat) (n mc : Int32) : va_W := [(ob, .inr (11, [.ref a, .int n, .int mc]))]
set_option maxHeartbeats 4000000 in
set_option maxRecDepth 100000 in
theorem kC_Lsize (l : Launch) (D : va_G) (dA : Nat → ClassId) (z : Nat → Nat) (ob a : Nat) (n mc : Int32) : KQ l D dA z yC_Lsize cC_Lsize 1 (some .int) 0 0 [lobj ob a n mc] [.ref ob] (some (.int n)) := by
  refine x_enterQ (by decide +kernel) (Nat.le_of_ble_eq_true rfl) (fun p e s m args below meth c A C hW ls hl => ?_)
  have hx := C.1.1
  have hb := C.1.2.1
  have hl : lv_has ls 1 [(0, .ref ob)] := hl
  refine lv_aload_n (pc := 0) hx hb dC_Lsize_0 rfl (lv_at hl 0 rfl) ?_
  refine x_getC (pc := 1) C hW 0 rfl (ci := 11) rfl i_Lst 1 (by decide) qc_319 rfl rfl dC_Lsize_1 ?_
  exact x_retS (pc := 4) C.1 rfl dC_Lsize_4
abbrev lrow (dA : Nat → ClassId) (b g : Nat) (f : Nat → Option Nat) : va_W := [(b, .inl (dA 4, g, .inr (.inr (.inr (.inr f)))))]
set_option maxHeartbeats 4000000 in
set_option maxRecDepth 100000 in
theorem kC_Lelem (l : Launch) (D : va_G) (dA : Nat → ClassId) (z : Nat → Nat) (ob b g : Nat) (n mc x : Int32) (f : Nat → Option Nat) (y : Nat) (hin : inB x g = true) (hy : f x.toNatClampNeg = some y) : KQ l D dA z yC_Lelem cC_Lelem 2 (some (.object "java/lang/Object")) 0 0 [lobj ob b n mc, lrow dA b g f] [.ref ob, .int x] (some (.ref y)) := by
  refine x_enterQ (by decide +kernel) (Nat.le_of_ble_eq_true rfl) (fun p e s m args below meth c A C hW ls hl => ?_)
  have hx := C.1.1
  have hb := C.1.2.1
  have hl : lv_has ls 2 [(0, .ref ob), (1, .int x)] := hl
  refine lv_aload_n (pc := 0) hx hb dC_Lelem_0 rfl (lv_at hl 0 rfl) ?_
  refine x_getC (pc := 1) C hW 0 rfl (ci := 11) rfl i_Lst 0 (by decide) qc_318 rfl rfl dC_Lelem_1 ?_
  refine lv_iload_n (pc := 4) hx hb dC_Lelem_4 rfl (lv_at hl 1 rfl) ?_
  refine va_aldq (pc := 5) hx hb C.2.1 hW.1 1 4 rfl rfl (inB_in hin) dC_Lelem_5 ?_
  rw [hy]
  exact x_retQa (pc := 6) C.1 rfl (Or.inl ⟨_, rfl⟩) dC_Lelem_6
theorem gC_Lelem : GoodIn lw_gd (wsV R_Lst 123 R_Lst yC_Lelem (.code yC_Lelem cC_Lelem 2 (some (.object "java/lang/Object")) :: lw_gd)) := lw_GV qc_990 qc_987 qc_988 qc_989 qc_17
set_option maxHeartbeats 4000000 in
set_option maxRecDepth 100000 in
theorem kC_Lget0 (l : Launch) (D : va_G) (dA : Nat → ClassId) (z : Nat → Nat) (ob b g : Nat) (n mc x : Int32) (f : Nat → Option Nat) (y : Nat) (h0 : ¬ x < 0) (h1 : x < n) (hin : inB x g = true) (hy : f x.toNatClampNeg = some y) : KQ l D dA z yC_Lget cC_Lget 2 (some (.object "java/lang/Object")) 2 80 [lobj ob b n mc, lrow dA b g f] [.ref ob, .int x] (some (.ref y)) := by
  refine x_enterQ (by decide +kernel) (Nat.le_of_ble_eq_true rfl) (fun p e s m args below meth c A C hW ls hl => ?_)
  have hx := C.1.1
  have hb := C.1.2.1
  have hl : lv_has ls 2 [(0, .ref ob), (1, .int x)] := hl
  refine lv_iload_n (pc := 0) hx hb dC_Lget_0 rfl (lv_at hl 1 rfl) ?_
  refine lv_aload_n (pc := 1) hx hb dC_Lget_1 rfl (lv_at hl 0 rfl) ?_
  refine x_getC (pc := 2) C hW 0 rfl (ci := 11) rfl i_Lst 1 (by decide) qc_319 rfl rfl dC_Lget_2 ?_
  refine x_callU (pc := 5) (ov := some (.int x)) C.1 (kC_Chk l x n h0 h1) qc_985 qc_983 qc_984 qc_34 ⟨by decide, by decide, by decide +kernel⟩ ⟨rfl, rfl⟩ ⟨by decide, by decide⟩ ⟨by decide, by decide⟩ (As := [.int x, .int n]) (n := 2) rfl hl.1 rfl (Nat.le_of_ble_eq_true rfl) dC_Lget_5 ?_
  refine lv_pop (pc := 8) hx hb dC_Lget_8 rfl ?_
  refine lv_aload_n (pc := 9) hx hb dC_Lget_9 rfl (lv_at hl 0 rfl) ?_
  refine lv_iload_n (pc := 10) hx hb dC_Lget_10 rfl (lv_at hl 1 rfl) ?_
  refine x_callQ (pc := 11) (n' := 2) (ov := some (.ref y)) C hW (kC_Lelem l D dA z ob b g n mc x f y hin hy) [0, 1] rfl (by decide +kernel) rfl (ci := 11) rfl (q0 := 0) rfl gC_Lelem ⟨rfl, by decide, by decide, by decide +kernel⟩ ⟨by decide, by decide⟩ ⟨by decide, by decide⟩ (As := [.int x]) (n := 1) rfl hl.1 rfl (Nat.le_of_ble_eq_true rfl) dC_Lget_11 ?_
  exact x_retQa (pc := 14) C.1 rfl (Or.inl ⟨_, rfl⟩) dC_Lget_14
/-- the place in the pool of the list's x-th item -/
def C_Lst_get (x : Int32) (σ : CS) : Option Nat := gd (!(decide (σ.2.2 1 = 0))) (gd (!(decide (x < 0))) (gd (decide (x < nI (σ.2.2 0))) (gd (inB x (σ.2.2 1)) (gd (decide (x.toNatClampNeg < σ.2.2 0)) (some (x.toNatClampNeg + 1))))))
theorem Lst_get_le {x : Int32} {σ : CS} {r : Nat} (h : C_Lst_get x σ = some r) : r < σ.2.2 0 + 1 := by
  obtain ⟨-, h⟩ := gd_some h
  obtain ⟨-, h⟩ := gd_some h
  obtain ⟨-, h⟩ := gd_some h
  obtain ⟨-, h⟩ := gd_some h
  obtain ⟨g, h⟩ := gd_some h
  have := sm_i h
  have := of_decide_eq_true g
  omega
theorem kC_Lst_get (l : Launch) (D : va_G) (dA : Nat → ClassId) (z : Nat → Nat) (o b i : Nat → Nat) (x : Int32) (σ : CS) {r : Nat} (hM : C_Lst_get x σ = some r) : KQ l D dA z yC_Lget cC_Lget 2 (some (.object "java/lang/Object")) 2 80 [lobj (o 66) (lref o b σ) (nI (σ.2.2 0)) (σ.1 0), larr dA b i σ] [.ref (o 66), .int x] (some (.ref (pa o i r))) := by
  obtain ⟨g1, hM⟩ := gd_some hM
  obtain ⟨g2, hM⟩ := gd_some hM
  obtain ⟨g3, hM⟩ := gd_some hM
  obtain ⟨g4, hM⟩ := gd_some hM
  obtain ⟨g5, hM⟩ := gd_some hM
  obtain rfl := sm_i hM
  simp only [Bool.not_eq_true', decide_eq_false_iff_not, decide_eq_true_eq] at g1 g2 g3 g5
  have e1 : lref o b σ = b 66 := if_neg g1
  have e2 : larr dA b i σ = lrow dA (b 66) (σ.2.2 1) (lfun i (σ.2.2 0)) := if_neg g1
  rw [e1, e2]
  exact kC_Lget0 l D dA z (o 66) (b 66) (σ.2.2 1) (nI (σ.2.2 0)) (σ.1 0) x (lfun i (σ.2.2 0)) (i (x.toNatClampNeg + 1)) g2 g3 g4 (if_pos g5)
section
variable {p : Program} {l : Launch} {e : Env} {R : Room} {s : State} {m : MethodId} {args : Array Value} {below : List Frame} {meth : Method} {c : Code} {H : Heap} {locs : List Loc} {cells slots : Nat} {Q : State → Prop} {pc : Nat} {ls : Array Slot} {rest : List Value} {cc : ByteArray} {nL : Nat} {rt : Option FieldType} {D : va_G} {dA : Nat → ClassId} {z : Nat → Nat} {A : Nat → Prop} {R0 : String} {Ws : List va_W} {o i : Nat → Nat} {σ : CS}
theorem x_castI (C : CxC R0 p s m args meth c cc nL rt D dA z A) (hW : WdC D A s Ws H locs) (j : Nat) (hj : Ws[j]? = some (pool o i σ)) {k : Nat} (hk : k < σ.2.2 0 + 1) {idx : Nat} (hl : Cond.classLink R0 idx R_Itm ∈ lw_gd) (hdg : decode cc pc = .ok (.checkcast idx, 3))
    (kk : W p l e R s m args below meth c H locs cells slots Q (F0 m (pc + 3) ls (.ref (pa o i k) :: rest))) : W p l e R s m args below meth c H locs cells slots Q (F0 m pc ls (.ref (pa o i k) :: rest)) := by
  obtain ⟨⟨hx, hb, hml, hrt, hown, hT, hlk⟩, hK, hA, hEX⟩ := C
  exact va_castS hx hb hown (hT _ hl) (hK.1 4 (R_Itm, F_Itm, 9) rfl).2 (va_recv hK hW.1 (ci := 4) (q := (R_Itm, F_Itm, 9)) rfl ((fl_get Ws j _ hj k (by simp [pool]; exact hk)).trans (pool_at hk))) hdg kk
end
