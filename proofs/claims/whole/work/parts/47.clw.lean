theorem qc_1408 : (Jvm.Cond.classLink "LineAssemblerLaw" (13 : Nat) "java/lang/IllegalStateException") ∈ lw_gd := uc_5 (List.mem_of_getElem? (i := 208) (by decide +kernel)) (by decide +kernel)
theorem qc_1409 : (Jvm.Cond.classLink "LineAssemblerLaw" (15 : Nat) "java/lang/IllegalArgumentException") ∈ lw_gd := uc_5 (List.mem_of_getElem? (i := 209) (by decide +kernel)) (by decide +kernel)
theorem qc_1410 : (Jvm.Cond.methodLink "LineAssemblerLaw" (7 : Nat) ({ cls := "LineAssembler", name := "size", desc := "(I)I" } : Jvm.MethodName)) ∈ lw_gd := uc_5 (List.mem_of_getElem? (i := 210) (by decide +kernel)) (by decide +kernel)
theorem qc_1411 : (Jvm.Cond.instanceMethod ({ cls := "LineAssembler", name := "size", desc := "(I)I" } : Jvm.MethodName)) ∈ lw_gd := uc_5 (List.mem_of_getElem? (i := 211) (by decide +kernel)) (by decide +kernel)
theorem qc_1412 : (Jvm.Cond.selects "LineAssembler" ({ cls := "LineAssembler", name := "size", desc := "(I)I" } : Jvm.MethodName) ({ cls := "LineAssembler", name := "size", desc := "(I)I" } : Jvm.MethodName)) ∈ lw_gd := uc_5 (List.mem_of_getElem? (i := 212) (by decide +kernel)) (by decide +kernel)
theorem qc_1413 : (Jvm.Cond.code ({ cls := "LineAssembler", name := "size", desc := "(I)I" } : Jvm.MethodName) prog_1_method_5_code (2 : Nat) (Option.some Jvm.ClassFile.FieldType.int)) ∈ lw_gd := uc_5 (List.mem_of_getElem? (i := 213) (by decide +kernel)) (by decide +kernel)
theorem qc_1436 : (Jvm.Cond.classLink "LineAssemblerLaw" (20 : Nat) "java/lang/IndexOutOfBoundsException") ∈ lw_gd := uc_5 (List.mem_of_getElem? (i := 236) (by decide +kernel)) (by decide +kernel)
theorem qc_1437 : (Jvm.Cond.methodLink "LineAssemblerLaw" (17 : Nat) ({ cls := "LineAssembler", name := "byteAt", desc := "(I)I" } : Jvm.MethodName)) ∈ lw_gd := uc_5 (List.mem_of_getElem? (i := 237) (by decide +kernel)) (by decide +kernel)
theorem qc_1438 : (Jvm.Cond.instanceMethod ({ cls := "LineAssembler", name := "byteAt", desc := "(I)I" } : Jvm.MethodName)) ∈ lw_gd := uc_5 (List.mem_of_getElem? (i := 238) (by decide +kernel)) (by decide +kernel)
theorem qc_1439 : (Jvm.Cond.selects "LineAssembler" ({ cls := "LineAssembler", name := "byteAt", desc := "(I)I" } : Jvm.MethodName) ({ cls := "LineAssembler", name := "byteAt", desc := "(I)I" } : Jvm.MethodName)) ∈ lw_gd := uc_5 (List.mem_of_getElem? (i := 239) (by decide +kernel)) (by decide +kernel)
theorem qc_1440 : (Jvm.Cond.code ({ cls := "LineAssembler", name := "byteAt", desc := "(I)I" } : Jvm.MethodName) prog_1_method_6_code (2 : Nat) (Option.some Jvm.ClassFile.FieldType.int)) ∈ lw_gd := uc_6 (List.mem_of_getElem? (i := 0) (by decide +kernel)) (by decide +kernel)
theorem qc_1457 : (Jvm.Cond.methodLink "LineAssemblerLaw" (22 : Nat) ({ cls := "LineAssembler", name := "address", desc := "(I)I" } : Jvm.MethodName)) ∈ lw_gd := uc_6 (List.mem_of_getElem? (i := 17) (by decide +kernel)) (by decide +kernel)
theorem qc_1458 : (Jvm.Cond.instanceMethod ({ cls := "LineAssembler", name := "address", desc := "(I)I" } : Jvm.MethodName)) ∈ lw_gd := uc_6 (List.mem_of_getElem? (i := 18) (by decide +kernel)) (by decide +kernel)
theorem qc_1459 : (Jvm.Cond.selects "LineAssembler" ({ cls := "LineAssembler", name := "address", desc := "(I)I" } : Jvm.MethodName) ({ cls := "LineAssembler", name := "address", desc := "(I)I" } : Jvm.MethodName)) ∈ lw_gd := uc_6 (List.mem_of_getElem? (i := 19) (by decide +kernel)) (by decide +kernel)
theorem qc_1460 : (Jvm.Cond.code ({ cls := "LineAssembler", name := "address", desc := "(I)I" } : Jvm.MethodName) prog_1_method_7_code (2 : Nat) (Option.some Jvm.ClassFile.FieldType.int)) ∈ lw_gd := uc_6 (List.mem_of_getElem? (i := 20) (by decide +kernel)) (by decide +kernel)
theorem qc_1469 : (Jvm.Cond.methodLink "LineAssemblerLaw" (25 : Nat) ({ cls := "LineAssembler", name := "letter", desc := "(II)C" } : Jvm.MethodName)) ∈ lw_gd := uc_6 (List.mem_of_getElem? (i := 29) (by decide +kernel)) (by decide +kernel)
theorem qc_1470 : (Jvm.Cond.instanceMethod ({ cls := "LineAssembler", name := "letter", desc := "(II)C" } : Jvm.MethodName)) ∈ lw_gd := uc_6 (List.mem_of_getElem? (i := 30) (by decide +kernel)) (by decide +kernel)
theorem qc_1471 : (Jvm.Cond.selects "LineAssembler" ({ cls := "LineAssembler", name := "letter", desc := "(II)C" } : Jvm.MethodName) ({ cls := "LineAssembler", name := "letter", desc := "(II)C" } : Jvm.MethodName)) ∈ lw_gd := uc_6 (List.mem_of_getElem? (i := 31) (by decide +kernel)) (by decide +kernel)
theorem qc_1472 : (Jvm.Cond.code ({ cls := "LineAssembler", name := "letter", desc := "(II)C" } : Jvm.MethodName) prog_1_method_8_code (4 : Nat) (Option.some Jvm.ClassFile.FieldType.char)) ∈ lw_gd := uc_6 (List.mem_of_getElem? (i := 32) (by decide +kernel)) (by decide +kernel)
/-! ===== the reference's contracts over lists of components; methods with a table of handlers ===== -/
theorem met_up {l : Launch} {y : MethodName} {ws : List Cond} {rm : Room} {Pc Pc' : Array Value → State → Prop} {Qc Qc' : Array Value → State → Outcome → State → Prop} {mc ms : Nat} {free free' : Addr → Prop} (h : Met l y ws rm Pc Qc mc ms free) (hP : ∀ a U, Pc' a U → Pc a U) (hQ : ∀ a st o t, Qc a st o t → Qc' a st o t) (hf : ∀ q, free q → free' q) : Met l y ws rm Pc' Qc' mc ms free' := by
  intro p e ha hc hk s m args below hfr happ hp hK
  obtain ⟨n, o, h1, h2, h3, hq, L, hF, hL⟩ := h p e ha hc hk s m args below hfr happ (hP _ _ hp) hK
  exact ⟨n, o, h1, h2, h3, hQ _ _ _ _ hq, L, hF, fun q hq => hf _ (hL q hq)⟩
theorem fl1 (w : va_W) : [w].flatten = w := by simp
theorem tyMC {dA : Nat → ClassId} : ∀ {k : Nat} {q : ClassId × FieldType}, (tyM dA)[k]? = some q → (tyC dA)[k]? = some q
  | 0, _, h => h
  | 1, _, h => h
  | 2, _, h => h
  | 3, _, h => h
  | (n + 4), _, h => by simp at h
section
variable {p : Program} {l : Launch} {e : Env} {R : Room} {s : State} {m : MethodId} {args : Array Value} {below : List Frame} {meth : Method} {c : Code} {H : Heap} {locs : List Loc} {cells slots : Nat} {Q : State → Prop} {pc : Nat} {ls : Array Slot} {rest st0 : List Value} {cc : ByteArray} {nL : Nat} {rt : Option FieldType} {D : va_G} {dA : Nat → ClassId} {z : Nat → Nat} {A : Nat → Prop} {R0 : String} {Ws Ws' Wc Wr : List va_W} {f lo dc ds : Nat} {Po : List va_W → Option Value → Prop} {h : Nat → Nat} {σ σ' : MS}
theorem KM.up {y : MethodName} {rm : Room} {As : List Value} {ov : Option Value} (hM : KM l D dA y cc nL rt rm h σ As ov σ') (hrm : rm = rmC f lo 0 0) : KC l D dA z y cc nL rt f lo 0 0 [wM dA h σ] (.ref (h 0) :: As) (fun Ws' ov' => Ws' = [wM dA h σ'] ∧ ov' = ov) := by
  intro sz
  subst hrm
  refine met_up (hM sz) ?_ ?_ ?_
  · rintro a U ⟨h1, h2, hP, hK, hD, -⟩
    rw [fl1] at hP hD
    exact ⟨h1, h2, hP, ⟨hK.1, fun k q hk => hK.2 k q (tyMC hk)⟩, hD⟩
  · rintro a st o t ⟨⟨rfl, h2, h3⟩, h4⟩
    rw [fl1]
    exact ⟨⟨[wM dA h σ'], ov, ⟨rfl, rfl⟩, rfl, by rw [fl1]; exact h2, by rw [fl1]; exact h3⟩, h4⟩
  · intro q hq
    rw [fl1]
    exact hq
theorem KR.up {y : MethodName} {rm : Room} {As : List Value} {ov : Option Value} (hM : KR l D dA y cc nL rt rm h σ As ov) (hrm : rm = rmC f lo 0 0) : KQ l D dA z y cc nL rt f lo [wM dA h σ] (.ref (h 0) :: As) ov := by
  subst hrm
  refine met_up hM ?_ (fun _ _ _ _ h => h) (fun _ h => h)
  rintro a U ⟨h1, hP, hK, hD, -⟩
  rw [fl1] at hP hD
  exact ⟨h1, hP, ⟨hK.1, fun k q hk => hK.2 k q (tyMC hk)⟩, hD⟩
def KCW (l : Launch) (D : va_G) (dA : Nat → ClassId) (z : Nat → Nat) (y : MethodName) (cc : ByteArray) (nL : Nat) (rt : Option FieldType) (hh : List (Nat × Nat × Nat × Nat)) (f lo dc ds : Nat) (Ws : List va_W) (As : List Value) (Po : List va_W → Option Value → Prop) : Prop :=
  ∀ sz, Met l y (.codeWith y cc nL rt hh :: lw_gd) (rmC f lo dc ds) (va_Pc As (fun U => U.heap.size = sz ∧ PC D dA z Ws U)) (QC D (va_A Ws.flatten sz) Po) dc ds (va_A Ws.flatten sz)
theorem x_enterW {y : MethodName} {As : List Value} {hh : List (Nat × Nat × Nat × Nat)} (hy : plainName y.cls = true) (hlen : (lg_sl As).length ≤ nL)
    (body : ∀ (p : Program) (e : Env) (s : State) (m : MethodId) (args : Array Value) (below : List Frame) (meth : Method) (c : Code) (A : Nat → Prop), CxC y.cls p s m args meth c cc nL rt D dA z A → c.exceptionTable.toList.map (fun h => (h.startPc, h.endPc, h.handlerPc, h.catchType)) = hh → WdC D A s Ws s.heap [] → ∀ ls, lv_has ls nL (lv_args 0 As) → W p l e (rmC f lo dc ds) s m args below meth c s.heap [] 0 0 (MQ below (QC D A Po) args s dc ds A) (F0 m 0 ls [])) : KCW l D dA z y cc nL rt hh f lo dc ds Ws As Po := by
  intro sz
  refine va_MetW (cc := cc) (maxL := nL) (ret := rt) (hh := hh) hy rfl ?_
  intro p e s m args below meth c s₁ B hml hv
  obtain ⟨rfl, hsz, hP, hK, hD0, hEX⟩ := hv
  have hts := atoms_spec (ws := .codeWith y cc nL rt hh :: lw_gd) B.pre
  have hown : s.vm.findClass y.cls = some m.cls := findClass_of_methodNamed B.named
  have hexc : c.exceptionTable.toList.map (fun h => (h.startPc, h.endPc, h.handlerPc, h.catchType)) = hh := by
    obtain ⟨m9, meth9, c9, n1, n2, n3, -, -, n6, -⟩ := Cond.codeWith_spec (hts _ List.mem_cons_self)
    cases B.named.symm.trans n1
    cases B.method.symm.trans n2
    cases (Stand.of_body B).code.symm.trans n3
    exact n6
  subst hsz
  have hl := lv_entry As (n := nL) hlen
  rw [lg_entry_eq]
  exact body p e s m _ below meth c _ ⟨⟨B.exec, B.bytes, hml, B.returns, hown, fun w h => hts w (List.mem_cons_of_mem _ h), B.notSynchronized⟩, hK, fun q h => Or.inr h, hEX⟩ hexc ⟨hP, hD0.self, va_S.rf⟩ _ hl
theorem x_callTW {cc' : ByteArray} {nL' idx n n' : Nat} {rt' : Option FieldType} {y : MethodName} {As : List Value} {hh : List (Nat × Nat × Nat × Nat)} (C : CxC R0 p s m args meth c cc nL rt D dA z A) (hW : WdC D A s Ws H locs) (hM : KCW l D dA z y cc' nL' rt' hh f lo dc ds Wc As Po)
    (ps : List Nat) (hn' : Ws.length = n') (hps : ps.Perm (List.range n')) (he : ps.filterMap (fun i => Ws[i]?) = Wc ++ Wr)
    (h0 : Cond.codeWith y cc' nL' rt' hh ∈ lw_gd) (h1 : Cond.methodLink R0 idx y ∈ lw_gd) (h2 : Cond.static y ∈ lw_gd) (h3 : Cond.initialized y.cls ∈ lw_gd) (hd : y.cls ≠ "java/lang/invoke/MethodHandle" ∧ y.cls ≠ "java/lang/invoke/VarHandle" ∧ (parseMethodDescriptor y.desc).map (fun d => d.parameters.length) = some n)
    (hR : f + 1 ≤ R.frames ∧ 8 + (nL' + 11) + lo ≤ R.locals) (hcs : cells + dc ≤ R.cells ∧ slots + ds ≤ R.slots) (hn : As.length = n) (hsz : ls.size = nL) (hst : st0 = As.reverse ++ rest) (hc : (rest.map fun v => v.category).sum ≤ 8) (hdg : decode cc pc = .ok (.invokestatic idx, 3))
    (kk : ∀ (Wc' : List va_W) (ov : Option Value) (H1 : Heap) (locs1 : List Loc), Po Wc' ov → (∀ Ws' : List va_W, Ws'.length = n' → ps.filterMap (fun i => Ws'[i]?) = Wc' ++ Wr → WdC D A s Ws' H1 locs1) → W p l e R s m args below meth c H1 locs1 (cells + dc) (slots + ds) Q (F0 m (pc + 3) ls (ov.toList ++ rest))) : W p l e R s m args below meth c H locs cells slots Q (F0 m pc ls st0) := by
  have C' := C
  obtain ⟨⟨hx, hb, hml, hrt, hown, hT, hlk⟩, hK, hA, hEX⟩ := C'
  have hgood : ∀ w ∈ (Cond.codeWith y cc' nL' rt' hh :: lw_gd), ∀ (a' : Array Value) (U : State), s.WarmedH U.vm → w.before a' U = true := fun w hw a' U hWm => by
    have hw' : w ∈ lw_gd := by
      rcases List.mem_cons.mp hw with rfl | h
      · exact h0
      · exact h
    exact word_at hWm (good_of_word (List.mem_filter.mp hw').2) (hT w hw')
  have hB := va_backW (l := l) (R := R) (p := p) (e := e) (below := below) (s := s) (sargs := args) (len := 3) (W := 8) (hh := hh) (bytes := cc') (maxL := nL') (ret := rt') (hM H.size) pc_blindS rfl rfl hR.1 hR.2 hgood List.mem_cons_self (fun a' U hWm => word_at hWm (good_of_word (List.mem_filter.mp h3).2) (hT _ h3))
  obtain ⟨mk, methM, cM, hnamed, hmethM, hcM, -, -, -, -, -, hsigM⟩ := Cond.codeWith_spec (hT _ h0)
  have hstatic : methM.isStatic = true := Cond.static_spec hnamed hmethM (hT _ h2)
  obtain ⟨kP, hkP, -⟩ := className_of_methodNamed hnamed
  have hinitP : kP.init = .initialized := Cond.initialized_spec (findClass_of_methodNamed hnamed) hkP (hT _ h3)
  have hlenp : As.length = methM.sig.parameters.length := by
    have h9 := hd.2.2
    rw [hsigM] at h9
    exact hn.trans (Option.some.inj h9).symm
  refine x_joinC (rm := rmC f lo dc ds) (Qa := QC D (va_A Wc.flatten H.size) Po As.toArray) (free := va_A Wc.flatten H.size) C hW ps n' hn' hps he (fun st oc t h => h) (fun q h => h) ?_ kk
  intro T hT' X
  obtain ⟨vm₁, X₁, hstep⟩ := X.invokestatic hx hown (hT _ h1) hnamed hmethM hstatic hkP hinitP ⟨hd.1, hd.2.1⟩ (g := F0 m pc ls st0) rfl (argsL := As) (rest := rest) hlenp hst (by rw [hb]; exact hdg)
  obtain ⟨v, ⟨U', l2, c2, s2⟩, X', ⟨g', mk', t, L, e1, e2, hq, e3, hL, e4, e5⟩, hsteps⟩ := hB m meth c ⟨T.setVm vm₁, locs, cells, slots⟩ (F0 m pc ls rest) (.invokestatic idx) mk As.toArray X₁ rfl (hsz.trans hml.symm) (by rw [hb]; exact hdg) (lv_room hc) (X₁.named hnamed) ⟨hcs.1, hcs.2, rfl, by rw [← hT']; rfl, x_preC C hW hn' hps he (T.setVm vm₁) hT' X₁.warmed⟩
  dsimp only [Pt.U, Pt.locs, Pt.cells, Pt.slots] at X' e1 e2 e3 e4 e5 hsteps
  subst e3; subst e4; subst e5
  exact ⟨v, _, t, U', L, hT', X', hL, e1, e2, hq, fun target h => hstep _ fun acts => by rw [doInvoke_state]; exact hsteps.trans h⟩
end
def upO (f : Nat → Int64) (x : Int64) : Nat → Int64 := vp_updL f (Int32.toNatClampNeg 0) x

theorem gL_7 : GoodIn lw_gd (wsV "LineAssemblerLaw" 7 R_Asm yC_Asm_size (.code yC_Asm_size cC_Asm_size 2 (some .int) :: lw_gd)) := lw_GV qc_1413 qc_1410 qc_1411 qc_1412 qc_1
theorem gL_17 : GoodIn lw_gd (wsV "LineAssemblerLaw" 17 R_Asm yC_Asm_byteAt (.code yC_Asm_byteAt cC_Asm_byteAt 2 (some .int) :: lw_gd)) := lw_GV qc_1440 qc_1437 qc_1438 qc_1439 qc_1
theorem gL_22 : GoodIn lw_gd (wsV "LineAssemblerLaw" 22 R_Asm yC_Asm_address (.code yC_Asm_address cC_Asm_address 2 (some .int) :: lw_gd)) := lw_GV qc_1460 qc_1457 qc_1458 qc_1459 qc_1
theorem gL_25 : GoodIn lw_gd (wsV "LineAssemblerLaw" 25 R_Asm yC_Asm_letter (.code yC_Asm_letter cC_Asm_letter 4 (some .char) :: lw_gd)) := lw_GV qc_1472 qc_1469 qc_1470 qc_1471 qc_1
abbrev cL_size : ByteArray := method_3_code
def yL_size : MethodName := ⟨"LineAssemblerLaw", "size", "(LLineAssembler;I[J)I"⟩
theorem dL_size_0 : decode cL_size 0 = .ok (.aload_n 2, 1) := by decide +kernel
theorem dL_size_1 : decode cL_size 1 = .ok (.iconst (0), 1) := by decide +kernel
theorem dL_size_2 : decode cL_size 2 = .ok (.aload_n 0, 1) := by decide +kernel
theorem dL_size_3 : decode cL_size 3 = .ok (.iload_n 1, 1) := by decide +kernel
theorem dL_size_4 : decode cL_size 4 = .ok (.invokevirtual 7, 3) := by decide +kernel
theorem dL_size_7 : decode cL_size 7 = .ok (.i2l, 1) := by decide +kernel
theorem dL_size_8 : decode cL_size 8 = .ok (.lastore, 1) := by decide +kernel
theorem dL_size_9 : decode cL_size 9 = .ok (.goto (9), 3) := by decide +kernel
theorem dL_size_12 : decode cL_size 12 = .ok (.astore_n 3, 1) := by decide +kernel
theorem dL_size_13 : decode cL_size 13 = .ok (.iconst (1), 1) := by decide +kernel
theorem dL_size_14 : decode cL_size 14 = .ok (.ireturn, 1) := by decide +kernel
theorem dL_size_15 : decode cL_size 15 = .ok (.astore_n 3, 1) := by decide +kernel
theorem dL_size_16 : decode cL_size 16 = .ok (.iconst (2), 1) := by decide +kernel
theorem dL_size_17 : decode cL_size 17 = .ok (.ireturn, 1) := by decide +kernel
theorem dL_size_18 : decode cL_size 18 = .ok (.iconst (0), 1) := by decide +kernel
theorem dL_size_19 : decode cL_size 19 = .ok (.ireturn, 1) := by decide +kernel
set_option maxHeartbeats 4000000 in
set_option maxRecDepth 100000 in
theorem kL_size_r (l : Launch) (D : va_G) (dA : Nat → ClassId) (o b i : Nat → Nat) (x1 : Int32) (sG : CS) (sR : CS) (sL : CS) (sX : CS) (sE : CS) (sY : CS) (sF : CS) (sN : CS) (sT : CS) (sP : CS) (sI : CS) (ao : Nat) (f : Nat → Int64) {r : Int32} (hM : C_Asm_size x1 sG sR sL sX sE sY sF sN sT sP sI = some r) : KCW l D dA (zz o) yL_size cL_size 4 (some .int) [(0, 9, 12, 13), (0, 9, 15, 15)] 10 260 1 6 ([(ao, .inl (dA 0, 1, .inr (.inl f)))] :: w_Asm dA o b i sG sR sL sX sE sY sF sN sT sP sI) [.ref (o 144), .int x1, .ref ao] (fun Ws' ov => Ws' = ([(ao, .inl (dA 0, 1, .inr (.inl (upO f r.toInt64))))] :: w_Asm dA o b i sG sR sL sX sE sY sF sN sT sP sI) ∧ ov = some (.int 0)) := by
  refine x_enterW (by decide +kernel) (Nat.le_of_ble_eq_true rfl) (fun p e s m args below meth c A C hexc hW ls hl => ?_)
  have hx := C.1.1
  have hb := C.1.2.1
  have hown := C.1.2.2.2.2.1
  have hT := C.1.2.2.2.2.2.1
  have hl : lv_has ls 4 [(0, .ref (o 144)), (1, .int x1), (2, .ref ao)] := hl
  refine lv_aload_n (pc := 0) hx hb dL_size_0 rfl (lv_at hl 2 rfl) ?_
  refine lv_iconst (pc := 1) (v := 0) hx hb dL_size_1 (by decide) ?_
  refine lv_aload_n (pc := 2) hx hb dL_size_2 rfl (lv_at hl 0 rfl) ?_
  refine lv_iload_n (pc := 3) hx hb dL_size_3 rfl (lv_at hl 1 rfl) ?_
  refine x_callQ (pc := 4) (n' := 53) (ov := some (.int r)) C hW (kC_Asm_size l D dA o b i x1 sG sR sL sX sE sY sF sN sT sP sI hM) [1, 2, 3, 4, 5, 6, 7, 8, 9, 10, 11, 12, 13, 14, 15, 16, 17, 18, 19, 20, 21, 22, 23, 24, 25, 26, 27, 28, 29, 30, 31, 32, 33, 34, 35, 36, 37, 38, 39, 40, 41, 42, 43, 44, 45, 46, 47, 48, 49, 50, 51, 52, 0] rfl (by decide +kernel) rfl (ci := 10) rfl (q0 := 1) rfl gL_7 ⟨rfl, by decide, by decide, by decide +kernel⟩ ⟨Nat.le_of_ble_eq_true rfl, Nat.le_of_ble_eq_true rfl⟩ ⟨Nat.le_of_ble_eq_true rfl, Nat.le_of_ble_eq_true rfl⟩ (As := [.int x1]) (n := 1) rfl hl.1 rfl (Nat.le_of_ble_eq_true rfl) dL_size_4 ?_
  refine lv_i2l (pc := 7) (v := r.toInt64) hx hb dL_size_7 rfl ?_
  refine va_last (pc := 8) hx hb C.2.1 hW.1 hW.2.1 hW.2.2 0 0 rfl rfl (inB_in (show inB 0 1 = true by decide)) dL_size_8 (fun H locs hP hD hS => ?_)
  have hW : WdC D A s ([(ao, .inl (dA 0, 1, .inr (.inl (upO f r.toInt64))))] :: w_Asm dA o b i sG sR sL sX sE sY sF sN sT sP sI) H locs := ⟨hP, hD, hS⟩
  refine lv_goto (pc := 9) (tgt := 18) hx hb dL_size_9 (by decide) ?_
  refine lv_iconst (pc := 18) (v := 0) hx hb dL_size_18 (by decide) ?_
  exact x_retCi (pc := 19) C rfl hW ⟨rfl, rfl⟩ (Nat.le_of_ble_eq_true rfl) (Nat.le_of_ble_eq_true rfl) dL_size_19
set_option maxHeartbeats 4000000 in
set_option maxRecDepth 100000 in
theorem kL_size_t1 (l : Launch) (D : va_G) (dA : Nat → ClassId) (o b i : Nat → Nat) (x1 : Int32) (sG : CS) (sR : CS) (sL : CS) (sX : CS) (sE : CS) (sY : CS) (sF : CS) (sN : CS) (sT : CS) (sP : CS) (sI : CS) (ao : Nat) (f : Nat → Int64) (htr : l.stackTraces = false) (hM : T_Asm_size x1 sG sR sL sX sE sY sF sN sT sP sI = some 1) : KCW l D dA (zz o) yL_size cL_size 4 (some .int) [(0, 9, 12, 13), (0, 9, 15, 15)] 10 260 1 6 ([(ao, .inl (dA 0, 1, .inr (.inl f)))] :: w_Asm dA o b i sG sR sL sX sE sY sF sN sT sP sI) [.ref (o 144), .int x1, .ref ao] (fun Ws' ov => Ws' = ([(ao, .inl (dA 0, 1, .inr (.inl f)))] :: w_Asm dA o b i sG sR sL sX sE sY sF sN sT sP sI) ∧ ov = some (.int 1)) := by
  refine x_enterW (by decide +kernel) (Nat.le_of_ble_eq_true rfl) (fun p e s m args below meth c A C hexc hW ls hl => ?_)
  have hx := C.1.1
  have hb := C.1.2.1
  have hown := C.1.2.2.2.2.1
  have hT := C.1.2.2.2.2.2.1
  have hl : lv_has ls 4 [(0, .ref (o 144)), (1, .int x1), (2, .ref ao)] := hl
  refine lv_aload_n (pc := 0) hx hb dL_size_0 rfl (lv_at hl 2 rfl) ?_
  refine lv_iconst (pc := 1) (v := 0) hx hb dL_size_1 (by decide) ?_
  refine lv_aload_n (pc := 2) hx hb dL_size_2 rfl (lv_at hl 0 rfl) ?_
  refine lv_iload_n (pc := 3) hx hb dL_size_3 rfl (lv_at hl 1 rfl) ?_
  refine x_callX (pc := 4) (n' := 53) (hpc := 12) C hW (kT_Asm_size l D dA o b i x1 sG sR sL sX sE sY sF sN sT sP sI htr hM) [1, 2, 3, 4, 5, 6, 7, 8, 9, 10, 11, 12, 13, 14, 15, 16, 17, 18, 19, 20, 21, 22, 23, 24, 25, 26, 27, 28, 29, 30, 31, 32, 33, 34, 35, 36, 37, 38, 39, 40, 41, 42, 43, 44, 45, 46, 47, 48, 49, 50, 51, 52, 0] rfl (by decide +kernel) rfl (ci := 10) rfl (q0 := 1) rfl gL_7 ⟨rfl, by decide, by decide, by decide +kernel⟩ ⟨Nat.le_of_ble_eq_true rfl, Nat.le_of_ble_eq_true rfl⟩ ⟨Nat.le_of_ble_eq_true rfl, Nat.le_of_ble_eq_true rfl⟩ (As := [.int x1]) (n := 1) rfl hl.1 rfl (Nat.le_of_ble_eq_true rfl) dL_size_4 (x_find1 (k := 1) C hexc (by decide) (by decide) qc_1408 (C.2.2.2.w _ ex_m12)) (fun a H hW => ?_)
  refine lv_astore_n (pc := 12) (nL := 4) (lv' := [(3, .ref a), (0, .ref (o 144)), (1, .int x1), (2, .ref ao)]) hx hb dL_size_12 rfl hl (by decide) rfl (fun ls hl => ?_)
  refine lv_iconst (pc := 13) (v := 1) hx hb dL_size_13 (by decide) ?_
  exact x_retCi (pc := 14) C rfl hW ⟨rfl, rfl⟩ (Nat.le_of_ble_eq_true rfl) (Nat.le_of_ble_eq_true rfl) dL_size_14
set_option maxHeartbeats 4000000 in
set_option maxRecDepth 100000 in
theorem kL_size_t2 (l : Launch) (D : va_G) (dA : Nat → ClassId) (o b i : Nat → Nat) (x1 : Int32) (sG : CS) (sR : CS) (sL : CS) (sX : CS) (sE : CS) (sY : CS) (sF : CS) (sN : CS) (sT : CS) (sP : CS) (sI : CS) (ao : Nat) (f : Nat → Int64) (htr : l.stackTraces = false) (hM : T_Asm_size x1 sG sR sL sX sE sY sF sN sT sP sI = some 2) : KCW l D dA (zz o) yL_size cL_size 4 (some .int) [(0, 9, 12, 13), (0, 9, 15, 15)] 10 260 1 6 ([(ao, .inl (dA 0, 1, .inr (.inl f)))] :: w_Asm dA o b i sG sR sL sX sE sY sF sN sT sP sI) [.ref (o 144), .int x1, .ref ao] (fun Ws' ov => Ws' = ([(ao, .inl (dA 0, 1, .inr (.inl f)))] :: w_Asm dA o b i sG sR sL sX sE sY sF sN sT sP sI) ∧ ov = some (.int 2)) := by
  refine x_enterW (by decide +kernel) (Nat.le_of_ble_eq_true rfl) (fun p e s m args below meth c A C hexc hW ls hl => ?_)
  have hx := C.1.1
  have hb := C.1.2.1
  have hown := C.1.2.2.2.2.1
  have hT := C.1.2.2.2.2.2.1
  have hl : lv_has ls 4 [(0, .ref (o 144)), (1, .int x1), (2, .ref ao)] := hl
  refine lv_aload_n (pc := 0) hx hb dL_size_0 rfl (lv_at hl 2 rfl) ?_
  refine lv_iconst (pc := 1) (v := 0) hx hb dL_size_1 (by decide) ?_
  refine lv_aload_n (pc := 2) hx hb dL_size_2 rfl (lv_at hl 0 rfl) ?_
  refine lv_iload_n (pc := 3) hx hb dL_size_3 rfl (lv_at hl 1 rfl) ?_
  refine x_callX (pc := 4) (n' := 53) (hpc := 15) C hW (kT_Asm_size l D dA o b i x1 sG sR sL sX sE sY sF sN sT sP sI htr hM) [1, 2, 3, 4, 5, 6, 7, 8, 9, 10, 11, 12, 13, 14, 15, 16, 17, 18, 19, 20, 21, 22, 23, 24, 25, 26, 27, 28, 29, 30, 31, 32, 33, 34, 35, 36, 37, 38, 39, 40, 41, 42, 43, 44, 45, 46, 47, 48, 49, 50, 51, 52, 0] rfl (by decide +kernel) rfl (ci := 10) rfl (q0 := 1) rfl gL_7 ⟨rfl, by decide, by decide, by decide +kernel⟩ ⟨Nat.le_of_ble_eq_true rfl, Nat.le_of_ble_eq_true rfl⟩ ⟨Nat.le_of_ble_eq_true rfl, Nat.le_of_ble_eq_true rfl⟩ (As := [.int x1]) (n := 1) rfl hl.1 rfl (Nat.le_of_ble_eq_true rfl) dL_size_4 (x_find2 (k := 2) (X0 := "java/lang/IllegalStateException") C hexc (by decide) (by decide) (by decide) (by decide) qc_1408 C.2.2.2.nc qc_1409 (C.2.2.2.w _ ex_m11)) (fun a H hW => ?_)
  refine lv_astore_n (pc := 15) (nL := 4) (lv' := [(3, .ref a), (0, .ref (o 144)), (1, .int x1), (2, .ref ao)]) hx hb dL_size_15 rfl hl (by decide) rfl (fun ls hl => ?_)
  refine lv_iconst (pc := 16) (v := 2) hx hb dL_size_16 (by decide) ?_
  exact x_retCi (pc := 17) C rfl hW ⟨rfl, rfl⟩ (Nat.le_of_ble_eq_true rfl) (Nat.le_of_ble_eq_true rfl) dL_size_17
abbrev cL_byteAt : ByteArray := method_4_code
def yL_byteAt : MethodName := ⟨"LineAssemblerLaw", "byteAt", "(LLineAssembler;I[J)I"⟩
theorem dL_byteAt_0 : decode cL_byteAt 0 = .ok (.aload_n 2, 1) := by decide +kernel
theorem dL_byteAt_1 : decode cL_byteAt 1 = .ok (.iconst (0), 1) := by decide +kernel
theorem dL_byteAt_2 : decode cL_byteAt 2 = .ok (.aload_n 0, 1) := by decide +kernel
theorem dL_byteAt_3 : decode cL_byteAt 3 = .ok (.iload_n 1, 1) := by decide +kernel
theorem dL_byteAt_4 : decode cL_byteAt 4 = .ok (.invokevirtual 17, 3) := by decide +kernel
theorem dL_byteAt_7 : decode cL_byteAt 7 = .ok (.i2l, 1) := by decide +kernel
theorem dL_byteAt_8 : decode cL_byteAt 8 = .ok (.lastore, 1) := by decide +kernel
theorem dL_byteAt_9 : decode cL_byteAt 9 = .ok (.goto (6), 3) := by decide +kernel
theorem dL_byteAt_12 : decode cL_byteAt 12 = .ok (.astore_n 3, 1) := by decide +kernel
theorem dL_byteAt_13 : decode cL_byteAt 13 = .ok (.iconst (1), 1) := by decide +kernel
theorem dL_byteAt_14 : decode cL_byteAt 14 = .ok (.ireturn, 1) := by decide +kernel
theorem dL_byteAt_15 : decode cL_byteAt 15 = .ok (.iconst (0), 1) := by decide +kernel
theorem dL_byteAt_16 : decode cL_byteAt 16 = .ok (.ireturn, 1) := by decide +kernel
set_option maxHeartbeats 4000000 in
set_option maxRecDepth 100000 in
theorem kL_byteAt_r (l : Launch) (D : va_G) (dA : Nat → ClassId) (o b i : Nat → Nat) (x1 : Int32) (sG : CS) (sR : CS) (sL : CS) (sX : CS) (sE : CS) (sY : CS) (sF : CS) (sN : CS) (sT : CS) (sP : CS) (sI : CS) (ao : Nat) (f : Nat → Int64) {r : Int32} (hM : C_Asm_byteAt x1 sG sR sL sX sE sY sF sN sT sP sI = some r) : KCW l D dA (zz o) yL_byteAt cL_byteAt 4 (some .int) [(0, 9, 12, 20)] 10 260 1 6 ([(ao, .inl (dA 0, 1, .inr (.inl f)))] :: w_Asm dA o b i sG sR sL sX sE sY sF sN sT sP sI) [.ref (o 144), .int x1, .ref ao] (fun Ws' ov => Ws' = ([(ao, .inl (dA 0, 1, .inr (.inl (upO f r.toInt64))))] :: w_Asm dA o b i sG sR sL sX sE sY sF sN sT sP sI) ∧ ov = some (.int 0)) := by
  refine x_enterW (by decide +kernel) (Nat.le_of_ble_eq_true rfl) (fun p e s m args below meth c A C hexc hW ls hl => ?_)
  have hx := C.1.1
  have hb := C.1.2.1
  have hown := C.1.2.2.2.2.1
  have hT := C.1.2.2.2.2.2.1
  have hl : lv_has ls 4 [(0, .ref (o 144)), (1, .int x1), (2, .ref ao)] := hl
  refine lv_aload_n (pc := 0) hx hb dL_byteAt_0 rfl (lv_at hl 2 rfl) ?_
  refine lv_iconst (pc := 1) (v := 0) hx hb dL_byteAt_1 (by decide) ?_
  refine lv_aload_n (pc := 2) hx hb dL_byteAt_2 rfl (lv_at hl 0 rfl) ?_
  refine lv_iload_n (pc := 3) hx hb dL_byteAt_3 rfl (lv_at hl 1 rfl) ?_
  refine x_callQ (pc := 4) (n' := 53) (ov := some (.int r)) C hW (kC_Asm_byteAt l D dA o b i x1 sG sR sL sX sE sY sF sN sT sP sI hM) [1, 2, 3, 4, 5, 6, 7, 8, 9, 10, 11, 12, 13, 14, 15, 16, 17, 18, 19, 20, 21, 22, 23, 24, 25, 26, 27, 28, 29, 30, 31, 32, 33, 34, 35, 36, 37, 38, 39, 40, 41, 42, 43, 44, 45, 46, 47, 48, 49, 50, 51, 52, 0] rfl (by decide +kernel) rfl (ci := 10) rfl (q0 := 1) rfl gL_17 ⟨rfl, by decide, by decide, by decide +kernel⟩ ⟨Nat.le_of_ble_eq_true rfl, Nat.le_of_ble_eq_true rfl⟩ ⟨Nat.le_of_ble_eq_true rfl, Nat.le_of_ble_eq_true rfl⟩ (As := [.int x1]) (n := 1) rfl hl.1 rfl (Nat.le_of_ble_eq_true rfl) dL_byteAt_4 ?_
  refine lv_i2l (pc := 7) (v := r.toInt64) hx hb dL_byteAt_7 rfl ?_
  refine va_last (pc := 8) hx hb C.2.1 hW.1 hW.2.1 hW.2.2 0 0 rfl rfl (inB_in (show inB 0 1 = true by decide)) dL_byteAt_8 (fun H locs hP hD hS => ?_)
  have hW : WdC D A s ([(ao, .inl (dA 0, 1, .inr (.inl (upO f r.toInt64))))] :: w_Asm dA o b i sG sR sL sX sE sY sF sN sT sP sI) H locs := ⟨hP, hD, hS⟩
  refine lv_goto (pc := 9) (tgt := 15) hx hb dL_byteAt_9 (by decide) ?_
  refine lv_iconst (pc := 15) (v := 0) hx hb dL_byteAt_15 (by decide) ?_
  exact x_retCi (pc := 16) C rfl hW ⟨rfl, rfl⟩ (Nat.le_of_ble_eq_true rfl) (Nat.le_of_ble_eq_true rfl) dL_byteAt_16
set_option maxHeartbeats 4000000 in
set_option maxRecDepth 100000 in
theorem kL_byteAt_t3 (l : Launch) (D : va_G) (dA : Nat → ClassId) (o b i : Nat → Nat) (x1 : Int32) (sG : CS) (sR : CS) (sL : CS) (sX : CS) (sE : CS) (sY : CS) (sF : CS) (sN : CS) (sT : CS) (sP : CS) (sI : CS) (ao : Nat) (f : Nat → Int64) (htr : l.stackTraces = false) (hM : T_Asm_byteAt x1 sG sR sL sX sE sY sF sN sT sP sI = some 3) : KCW l D dA (zz o) yL_byteAt cL_byteAt 4 (some .int) [(0, 9, 12, 20)] 10 260 1 6 ([(ao, .inl (dA 0, 1, .inr (.inl f)))] :: w_Asm dA o b i sG sR sL sX sE sY sF sN sT sP sI) [.ref (o 144), .int x1, .ref ao] (fun Ws' ov => Ws' = ([(ao, .inl (dA 0, 1, .inr (.inl f)))] :: w_Asm dA o b i sG sR sL sX sE sY sF sN sT sP sI) ∧ ov = some (.int 1)) := by
  refine x_enterW (by decide +kernel) (Nat.le_of_ble_eq_true rfl) (fun p e s m args below meth c A C hexc hW ls hl => ?_)
  have hx := C.1.1
  have hb := C.1.2.1
  have hown := C.1.2.2.2.2.1
  have hT := C.1.2.2.2.2.2.1
  have hl : lv_has ls 4 [(0, .ref (o 144)), (1, .int x1), (2, .ref ao)] := hl
  refine lv_aload_n (pc := 0) hx hb dL_byteAt_0 rfl (lv_at hl 2 rfl) ?_
  refine lv_iconst (pc := 1) (v := 0) hx hb dL_byteAt_1 (by decide) ?_
  refine lv_aload_n (pc := 2) hx hb dL_byteAt_2 rfl (lv_at hl 0 rfl) ?_
  refine lv_iload_n (pc := 3) hx hb dL_byteAt_3 rfl (lv_at hl 1 rfl) ?_
  refine x_callX (pc := 4) (n' := 53) (hpc := 12) C hW (kT_Asm_byteAt l D dA o b i x1 sG sR sL sX sE sY sF sN sT sP sI htr hM) [1, 2, 3, 4, 5, 6, 7, 8, 9, 10, 11, 12, 13, 14, 15, 16, 17, 18, 19, 20, 21, 22, 23, 24, 25, 26, 27, 28, 29, 30, 31, 32, 33, 34, 35, 36, 37, 38, 39, 40, 41, 42, 43, 44, 45, 46, 47, 48, 49, 50, 51, 52, 0] rfl (by decide +kernel) rfl (ci := 10) rfl (q0 := 1) rfl gL_17 ⟨rfl, by decide, by decide, by decide +kernel⟩ ⟨Nat.le_of_ble_eq_true rfl, Nat.le_of_ble_eq_true rfl⟩ ⟨Nat.le_of_ble_eq_true rfl, Nat.le_of_ble_eq_true rfl⟩ (As := [.int x1]) (n := 1) rfl hl.1 rfl (Nat.le_of_ble_eq_true rfl) dL_byteAt_4 (x_find1 (k := 3) C hexc (by decide) (by decide) qc_1436 (C.2.2.2.w _ ex_m13)) (fun a H hW => ?_)
  refine lv_astore_n (pc := 12) (nL := 4) (lv' := [(3, .ref a), (0, .ref (o 144)), (1, .int x1), (2, .ref ao)]) hx hb dL_byteAt_12 rfl hl (by decide) rfl (fun ls hl => ?_)
  refine lv_iconst (pc := 13) (v := 1) hx hb dL_byteAt_13 (by decide) ?_
  exact x_retCi (pc := 14) C rfl hW ⟨rfl, rfl⟩ (Nat.le_of_ble_eq_true rfl) (Nat.le_of_ble_eq_true rfl) dL_byteAt_14
abbrev cL_address : ByteArray := method_5_code
def yL_address : MethodName := ⟨"LineAssemblerLaw", "address", "(LLineAssembler;I[J)I"⟩
theorem dL_address_0 : decode cL_address 0 = .ok (.aload_n 2, 1) := by decide +kernel
theorem dL_address_1 : decode cL_address 1 = .ok (.iconst (0), 1) := by decide +kernel
theorem dL_address_2 : decode cL_address 2 = .ok (.aload_n 0, 1) := by decide +kernel
theorem dL_address_3 : decode cL_address 3 = .ok (.iload_n 1, 1) := by decide +kernel
theorem dL_address_4 : decode cL_address 4 = .ok (.invokevirtual 22, 3) := by decide +kernel
theorem dL_address_7 : decode cL_address 7 = .ok (.i2l, 1) := by decide +kernel
theorem dL_address_8 : decode cL_address 8 = .ok (.lastore, 1) := by decide +kernel
theorem dL_address_9 : decode cL_address 9 = .ok (.goto (6), 3) := by decide +kernel
theorem dL_address_12 : decode cL_address 12 = .ok (.astore_n 3, 1) := by decide +kernel
theorem dL_address_13 : decode cL_address 13 = .ok (.iconst (1), 1) := by decide +kernel
theorem dL_address_14 : decode cL_address 14 = .ok (.ireturn, 1) := by decide +kernel
theorem dL_address_15 : decode cL_address 15 = .ok (.iconst (0), 1) := by decide +kernel
theorem dL_address_16 : decode cL_address 16 = .ok (.ireturn, 1) := by decide +kernel
set_option maxHeartbeats 4000000 in
set_option maxRecDepth 100000 in
theorem kL_address_r (l : Launch) (D : va_G) (dA : Nat → ClassId) (o b i : Nat → Nat) (x1 : Int32) (sG : CS) (sR : CS) (sL : CS) (sX : CS) (sE : CS) (sY : CS) (sF : CS) (sN : CS) (sT : CS) (sP : CS) (sI : CS) (ao : Nat) (f : Nat → Int64) {r : Int32} (hM : C_Asm_address x1 sG sR sL sX sE sY sF sN sT sP sI = some r) : KCW l D dA (zz o) yL_address cL_address 4 (some .int) [(0, 9, 12, 20)] 10 260 1 6 ([(ao, .inl (dA 0, 1, .inr (.inl f)))] :: w_Asm dA o b i sG sR sL sX sE sY sF sN sT sP sI) [.ref (o 144), .int x1, .ref ao] (fun Ws' ov => Ws' = ([(ao, .inl (dA 0, 1, .inr (.inl (upO f r.toInt64))))] :: w_Asm dA o b i sG sR sL sX sE sY sF sN sT sP sI) ∧ ov = some (.int 0)) := by
  refine x_enterW (by decide +kernel) (Nat.le_of_ble_eq_true rfl) (fun p e s m args below meth c A C hexc hW ls hl => ?_)
  have hx := C.1.1
  have hb := C.1.2.1
  have hown := C.1.2.2.2.2.1
  have hT := C.1.2.2.2.2.2.1
  have hl : lv_has ls 4 [(0, .ref (o 144)), (1, .int x1), (2, .ref ao)] := hl
  refine lv_aload_n (pc := 0) hx hb dL_address_0 rfl (lv_at hl 2 rfl) ?_
  refine lv_iconst (pc := 1) (v := 0) hx hb dL_address_1 (by decide) ?_
  refine lv_aload_n (pc := 2) hx hb dL_address_2 rfl (lv_at hl 0 rfl) ?_
  refine lv_iload_n (pc := 3) hx hb dL_address_3 rfl (lv_at hl 1 rfl) ?_
  refine x_callQ (pc := 4) (n' := 53) (ov := some (.int r)) C hW (kC_Asm_address l D dA o b i x1 sG sR sL sX sE sY sF sN sT sP sI hM) [1, 2, 3, 4, 5, 6, 7, 8, 9, 10, 11, 12, 13, 14, 15, 16, 17, 18, 19, 20, 21, 22, 23, 24, 25, 26, 27, 28, 29, 30, 31, 32, 33, 34, 35, 36, 37, 38, 39, 40, 41, 42, 43, 44, 45, 46, 47, 48, 49, 50, 51, 52, 0] rfl (by decide +kernel) rfl (ci := 10) rfl (q0 := 1) rfl gL_22 ⟨rfl, by decide, by decide, by decide +kernel⟩ ⟨Nat.le_of_ble_eq_true rfl, Nat.le_of_ble_eq_true rfl⟩ ⟨Nat.le_of_ble_eq_true rfl, Nat.le_of_ble_eq_true rfl⟩ (As := [.int x1]) (n := 1) rfl hl.1 rfl (Nat.le_of_ble_eq_true rfl) dL_address_4 ?_
  refine lv_i2l (pc := 7) (v := r.toInt64) hx hb dL_address_7 rfl ?_
  refine va_last (pc := 8) hx hb C.2.1 hW.1 hW.2.1 hW.2.2 0 0 rfl rfl (inB_in (show inB 0 1 = true by decide)) dL_address_8 (fun H locs hP hD hS => ?_)
  have hW : WdC D A s ([(ao, .inl (dA 0, 1, .inr (.inl (upO f r.toInt64))))] :: w_Asm dA o b i sG sR sL sX sE sY sF sN sT sP sI) H locs := ⟨hP, hD, hS⟩
  refine lv_goto (pc := 9) (tgt := 15) hx hb dL_address_9 (by decide) ?_
  refine lv_iconst (pc := 15) (v := 0) hx hb dL_address_15 (by decide) ?_
  exact x_retCi (pc := 16) C rfl hW ⟨rfl, rfl⟩ (Nat.le_of_ble_eq_true rfl) (Nat.le_of_ble_eq_true rfl) dL_address_16
set_option maxHeartbeats 4000000 in
set_option maxRecDepth 100000 in
theorem kL_address_t3 (l : Launch) (D : va_G) (dA : Nat → ClassId) (o b i : Nat → Nat) (x1 : Int32) (sG : CS) (sR : CS) (sL : CS) (sX : CS) (sE : CS) (sY : CS) (sF : CS) (sN : CS) (sT : CS) (sP : CS) (sI : CS) (ao : Nat) (f : Nat → Int64) (htr : l.stackTraces = false) (hM : T_Asm_address x1 sG sR sL sX sE sY sF sN sT sP sI = some 3) : KCW l D dA (zz o) yL_address cL_address 4 (some .int) [(0, 9, 12, 20)] 10 260 1 6 ([(ao, .inl (dA 0, 1, .inr (.inl f)))] :: w_Asm dA o b i sG sR sL sX sE sY sF sN sT sP sI) [.ref (o 144), .int x1, .ref ao] (fun Ws' ov => Ws' = ([(ao, .inl (dA 0, 1, .inr (.inl f)))] :: w_Asm dA o b i sG sR sL sX sE sY sF sN sT sP sI) ∧ ov = some (.int 1)) := by
  refine x_enterW (by decide +kernel) (Nat.le_of_ble_eq_true rfl) (fun p e s m args below meth c A C hexc hW ls hl => ?_)
  have hx := C.1.1
  have hb := C.1.2.1
  have hown := C.1.2.2.2.2.1
  have hT := C.1.2.2.2.2.2.1
  have hl : lv_has ls 4 [(0, .ref (o 144)), (1, .int x1), (2, .ref ao)] := hl
  refine lv_aload_n (pc := 0) hx hb dL_address_0 rfl (lv_at hl 2 rfl) ?_
  refine lv_iconst (pc := 1) (v := 0) hx hb dL_address_1 (by decide) ?_
  refine lv_aload_n (pc := 2) hx hb dL_address_2 rfl (lv_at hl 0 rfl) ?_
  refine lv_iload_n (pc := 3) hx hb dL_address_3 rfl (lv_at hl 1 rfl) ?_
  refine x_callX (pc := 4) (n' := 53) (hpc := 12) C hW (kT_Asm_address l D dA o b i x1 sG sR sL sX sE sY sF sN sT sP sI htr hM) [1, 2, 3, 4, 5, 6, 7, 8, 9, 10, 11, 12, 13, 14, 15, 16, 17, 18, 19, 20, 21, 22, 23, 24, 25, 26, 27, 28, 29, 30, 31, 32, 33, 34, 35, 36, 37, 38, 39, 40, 41, 42, 43, 44, 45, 46, 47, 48, 49, 50, 51, 52, 0] rfl (by decide +kernel) rfl (ci := 10) rfl (q0 := 1) rfl gL_22 ⟨rfl, by decide, by decide, by decide +kernel⟩ ⟨Nat.le_of_ble_eq_true rfl, Nat.le_of_ble_eq_true rfl⟩ ⟨Nat.le_of_ble_eq_true rfl, Nat.le_of_ble_eq_true rfl⟩ (As := [.int x1]) (n := 1) rfl hl.1 rfl (Nat.le_of_ble_eq_true rfl) dL_address_4 (x_find1 (k := 3) C hexc (by decide) (by decide) qc_1436 (C.2.2.2.w _ ex_m13)) (fun a H hW => ?_)
  refine lv_astore_n (pc := 12) (nL := 4) (lv' := [(3, .ref a), (0, .ref (o 144)), (1, .int x1), (2, .ref ao)]) hx hb dL_address_12 rfl hl (by decide) rfl (fun ls hl => ?_)
  refine lv_iconst (pc := 13) (v := 1) hx hb dL_address_13 (by decide) ?_
  exact x_retCi (pc := 14) C rfl hW ⟨rfl, rfl⟩ (Nat.le_of_ble_eq_true rfl) (Nat.le_of_ble_eq_true rfl) dL_address_14
abbrev cL_letter : ByteArray := method_6_code
def yL_letter : MethodName := ⟨"LineAssemblerLaw", "letter", "(LLineAssembler;II[J)I"⟩
theorem dL_letter_0 : decode cL_letter 0 = .ok (.aload_n 3, 1) := by decide +kernel
theorem dL_letter_1 : decode cL_letter 1 = .ok (.iconst (0), 1) := by decide +kernel
theorem dL_letter_2 : decode cL_letter 2 = .ok (.aload_n 0, 1) := by decide +kernel
theorem dL_letter_3 : decode cL_letter 3 = .ok (.iload_n 1, 1) := by decide +kernel
theorem dL_letter_4 : decode cL_letter 4 = .ok (.iload_n 2, 1) := by decide +kernel
theorem dL_letter_5 : decode cL_letter 5 = .ok (.invokevirtual 25, 3) := by decide +kernel
theorem dL_letter_8 : decode cL_letter 8 = .ok (.i2l, 1) := by decide +kernel
theorem dL_letter_9 : decode cL_letter 9 = .ok (.lastore, 1) := by decide +kernel
theorem dL_letter_10 : decode cL_letter 10 = .ok (.goto (7), 3) := by decide +kernel
theorem dL_letter_13 : decode cL_letter 13 = .ok (.astore 4, 2) := by decide +kernel
theorem dL_letter_15 : decode cL_letter 15 = .ok (.iconst (1), 1) := by decide +kernel
theorem dL_letter_16 : decode cL_letter 16 = .ok (.ireturn, 1) := by decide +kernel
theorem dL_letter_17 : decode cL_letter 17 = .ok (.iconst (0), 1) := by decide +kernel
theorem dL_letter_18 : decode cL_letter 18 = .ok (.ireturn, 1) := by decide +kernel
set_option maxHeartbeats 4000000 in
set_option maxRecDepth 100000 in
theorem kL_letter_r (l : Launch) (D : va_G) (dA : Nat → ClassId) (o b i : Nat → Nat) (x1 x2 : Int32) (sG : CS) (sR : CS) (sL : CS) (sX : CS) (sE : CS) (sY : CS) (sF : CS) (sN : CS) (sT : CS) (sP : CS) (sI : CS) (ao : Nat) (f : Nat → Int64) {r : Int32} (hM : C_Asm_letter x1 x2 sG sR sL sX sE sY sF sN sT sP sI = some r) : KCW l D dA (zz o) yL_letter cL_letter 5 (some .int) [(0, 10, 13, 20)] 10 260 1 6 ([(ao, .inl (dA 0, 1, .inr (.inl f)))] :: w_Asm dA o b i sG sR sL sX sE sY sF sN sT sP sI) [.ref (o 144), .int x1, .int x2, .ref ao] (fun Ws' ov => Ws' = ([(ao, .inl (dA 0, 1, .inr (.inl (upO f r.toInt64))))] :: w_Asm dA o b i sG sR sL sX sE sY sF sN sT sP sI) ∧ ov = some (.int 0)) := by
  refine x_enterW (by decide +kernel) (Nat.le_of_ble_eq_true rfl) (fun p e s m args below meth c A C hexc hW ls hl => ?_)
  have hx := C.1.1
  have hb := C.1.2.1
  have hown := C.1.2.2.2.2.1
  have hT := C.1.2.2.2.2.2.1
  have hl : lv_has ls 5 [(0, .ref (o 144)), (1, .int x1), (2, .int x2), (3, .ref ao)] := hl
  refine lv_aload_n (pc := 0) hx hb dL_letter_0 rfl (lv_at hl 3 rfl) ?_
  refine lv_iconst (pc := 1) (v := 0) hx hb dL_letter_1 (by decide) ?_
  refine lv_aload_n (pc := 2) hx hb dL_letter_2 rfl (lv_at hl 0 rfl) ?_
  refine lv_iload_n (pc := 3) hx hb dL_letter_3 rfl (lv_at hl 1 rfl) ?_
  refine lv_iload_n (pc := 4) hx hb dL_letter_4 rfl (lv_at hl 2 rfl) ?_
  refine x_callQ (pc := 5) (n' := 53) (ov := some (.int r)) C hW (kC_Asm_letter l D dA o b i x1 x2 sG sR sL sX sE sY sF sN sT sP sI hM) [1, 2, 3, 4, 5, 6, 7, 8, 9, 10, 11, 12, 13, 14, 15, 16, 17, 18, 19, 20, 21, 22, 23, 24, 25, 26, 27, 28, 29, 30, 31, 32, 33, 34, 35, 36, 37, 38, 39, 40, 41, 42, 43, 44, 45, 46, 47, 48, 49, 50, 51, 52, 0] rfl (by decide +kernel) rfl (ci := 10) rfl (q0 := 1) rfl gL_25 ⟨rfl, by decide, by decide, by decide +kernel⟩ ⟨Nat.le_of_ble_eq_true rfl, Nat.le_of_ble_eq_true rfl⟩ ⟨Nat.le_of_ble_eq_true rfl, Nat.le_of_ble_eq_true rfl⟩ (As := [.int x1, .int x2]) (n := 2) rfl hl.1 rfl (Nat.le_of_ble_eq_true rfl) dL_letter_5 ?_
  refine lv_i2l (pc := 8) (v := r.toInt64) hx hb dL_letter_8 rfl ?_
  refine va_last (pc := 9) hx hb C.2.1 hW.1 hW.2.1 hW.2.2 0 0 rfl rfl (inB_in (show inB 0 1 = true by decide)) dL_letter_9 (fun H locs hP hD hS => ?_)
  have hW : WdC D A s ([(ao, .inl (dA 0, 1, .inr (.inl (upO f r.toInt64))))] :: w_Asm dA o b i sG sR sL sX sE sY sF sN sT sP sI) H locs := ⟨hP, hD, hS⟩
  refine lv_goto (pc := 10) (tgt := 17) hx hb dL_letter_10 (by decide) ?_
  refine lv_iconst (pc := 17) (v := 0) hx hb dL_letter_17 (by decide) ?_
  exact x_retCi (pc := 18) C rfl hW ⟨rfl, rfl⟩ (Nat.le_of_ble_eq_true rfl) (Nat.le_of_ble_eq_true rfl) dL_letter_18
set_option maxHeartbeats 4000000 in
set_option maxRecDepth 100000 in
theorem kL_letter_t3 (l : Launch) (D : va_G) (dA : Nat → ClassId) (o b i : Nat → Nat) (x1 x2 : Int32) (sG : CS) (sR : CS) (sL : CS) (sX : CS) (sE : CS) (sY : CS) (sF : CS) (sN : CS) (sT : CS) (sP : CS) (sI : CS) (ao : Nat) (f : Nat → Int64) (htr : l.stackTraces = false) (hM : T_Asm_letter x1 x2 sG sR sL sX sE sY sF sN sT sP sI = some 3) : KCW l D dA (zz o) yL_letter cL_letter 5 (some .int) [(0, 10, 13, 20)] 10 260 1 6 ([(ao, .inl (dA 0, 1, .inr (.inl f)))] :: w_Asm dA o b i sG sR sL sX sE sY sF sN sT sP sI) [.ref (o 144), .int x1, .int x2, .ref ao] (fun Ws' ov => Ws' = ([(ao, .inl (dA 0, 1, .inr (.inl f)))] :: w_Asm dA o b i sG sR sL sX sE sY sF sN sT sP sI) ∧ ov = some (.int 1)) := by
  refine x_enterW (by decide +kernel) (Nat.le_of_ble_eq_true rfl) (fun p e s m args below meth c A C hexc hW ls hl => ?_)
  have hx := C.1.1
  have hb := C.1.2.1
  have hown := C.1.2.2.2.2.1
  have hT := C.1.2.2.2.2.2.1
  have hl : lv_has ls 5 [(0, .ref (o 144)), (1, .int x1), (2, .int x2), (3, .ref ao)] := hl
  refine lv_aload_n (pc := 0) hx hb dL_letter_0 rfl (lv_at hl 3 rfl) ?_
  refine lv_iconst (pc := 1) (v := 0) hx hb dL_letter_1 (by decide) ?_
  refine lv_aload_n (pc := 2) hx hb dL_letter_2 rfl (lv_at hl 0 rfl) ?_
  refine lv_iload_n (pc := 3) hx hb dL_letter_3 rfl (lv_at hl 1 rfl) ?_
  refine lv_iload_n (pc := 4) hx hb dL_letter_4 rfl (lv_at hl 2 rfl) ?_
  refine x_callX (pc := 5) (n' := 53) (hpc := 13) C hW (kT_Asm_letter l D dA o b i x1 x2 sG sR sL sX sE sY sF sN sT sP sI htr hM) [1, 2, 3, 4, 5, 6, 7, 8, 9, 10, 11, 12, 13, 14, 15, 16, 17, 18, 19, 20, 21, 22, 23, 24, 25, 26, 27, 28, 29, 30, 31, 32, 33, 34, 35, 36, 37, 38, 39, 40, 41, 42, 43, 44, 45, 46, 47, 48, 49, 50, 51, 52, 0] rfl (by decide +kernel) rfl (ci := 10) rfl (q0 := 1) rfl gL_25 ⟨rfl, by decide, by decide, by decide +kernel⟩ ⟨Nat.le_of_ble_eq_true rfl, Nat.le_of_ble_eq_true rfl⟩ ⟨Nat.le_of_ble_eq_true rfl, Nat.le_of_ble_eq_true rfl⟩ (As := [.int x1, .int x2]) (n := 2) rfl hl.1 rfl (Nat.le_of_ble_eq_true rfl) dL_letter_5 (x_find1 (k := 3) C hexc (by decide) (by decide) qc_1436 (C.2.2.2.w _ ex_m13)) (fun a H hW => ?_)
  refine lv_astore (pc := 13) (nL := 5) (lv' := [(4, .ref a), (0, .ref (o 144)), (1, .int x1), (2, .int x2), (3, .ref ao)]) hx hb dL_letter_13 hl (by decide) rfl (fun ls hl => ?_)
  refine lv_iconst (pc := 15) (v := 1) hx hb dL_letter_15 (by decide) ?_
  exact x_retCi (pc := 16) C rfl hW ⟨rfl, rfl⟩ (Nat.le_of_ble_eq_true rfl) (Nat.le_of_ble_eq_true rfl) dL_letter_16
