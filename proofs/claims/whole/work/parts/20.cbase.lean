/-! ===== the class's side: a world is a list of components ===== -/
theorem cp_iff {D : va_G} {cl : List vw_C} {ws : va_W} {H : Heap} : va_P D cl ws H ↔ ∀ q ∈ ws, va_at D cl q H :=
  ⟨fun h q hq => by
    obtain ⟨k, hk⟩ := List.getElem?_of_mem hq
    exact h k q hk, fun h k q hk => h q (List.mem_of_getElem? hk)⟩
def cd_R (p q : Nat × va_E) : Prop := p.1 ≠ q.1
theorem cd_iff {A : Nat → Prop} {ws : va_W} : va_D A ws ↔ ws.Pairwise cd_R ∧ ∀ q ∈ ws, A q.1 := by
  constructor
  · intro h
    refine ⟨List.pairwise_iff_getElem.mpr (fun i j hi hj hij he => ?_), fun q hq => ?_⟩
    · exact absurd (h.1 i j _ _ (List.getElem?_eq_getElem hi) (List.getElem?_eq_getElem hj) he) (Nat.ne_of_lt hij)
    · obtain ⟨k, hk⟩ := List.getElem?_of_mem hq
      exact h.2 k q hk
  · intro h
    refine ⟨fun i j p q hp hq he => ?_, fun k q hk => h.2 q (List.mem_of_getElem? hk)⟩
    obtain ⟨hi, rfl⟩ := List.getElem?_eq_some_iff.mp hp
    obtain ⟨hj, rfl⟩ := List.getElem?_eq_some_iff.mp hq
    rcases Nat.lt_trichotomy i j with hl | hl | hl
    · exact absurd he (List.pairwise_iff_getElem.mp h.1 i j hi hj hl)
    · exact hl
    · exact absurd he.symm (List.pairwise_iff_getElem.mp h.1 j i hj hi hl)
theorem cp_perm {D : va_G} {cl : List vw_C} {ws ws' : va_W} {H : Heap} (h : ws.Perm ws') (hP : va_P D cl ws H) : va_P D cl ws' H := cp_iff.mpr (fun q hq => cp_iff.mp hP q (h.mem_iff.mpr hq))
theorem cd_perm {A : Nat → Prop} {ws ws' : va_W} (h : ws.Perm ws') (hD : va_D A ws) : va_D A ws' := by
  have h1 := cd_iff.mp hD
  exact cd_iff.mpr ⟨(h.pairwise_iff (R := cd_R) (fun hxy => Ne.symm hxy)).mp h1.1, fun q hq => h1.2 q (h.mem_iff.mpr hq)⟩
theorem cp_join {D : va_G} {cl : List vw_C} {A : Nat → Prop} {wc wr w1 : va_W} {H H1 : Heap} (hP : va_P D cl (wc ++ wr) H) (hD : va_D A (wc ++ wr)) (hk : ∀ q : Nat, q < H.size → ¬ va_A wc H.size q → H1[q]? = H[q]?) (hF : ∀ q, va_A wc H.size q → A q)
    (hP1 : va_P D cl w1 H1) (hD1 : va_D (va_A wc H.size) w1) : va_P D cl (w1 ++ wr) H1 ∧ va_D A (w1 ++ wr) := by
  have hp := cp_iff.mp hP
  have hd := cd_iff.mp hD
  have hp1 := cp_iff.mp hP1
  have hd1 := cd_iff.mp hD1
  have hpw := List.pairwise_append.mp hd.1
  have hout : ∀ q ∈ wr, q.1 < H.size ∧ ¬ va_A wc H.size q.1 := by
    intro q hq
    have hlt := (hp q (List.mem_append_right _ hq)).lt
    refine ⟨hlt, fun hA => ?_⟩
    rcases hA with ⟨k, e, hke⟩ | hge
    · exact hpw.2.2 (q.1, e) (List.mem_of_getElem? hke) q hq rfl
    · exact absurd hlt (Nat.not_lt.mpr hge)
  refine ⟨cp_iff.mpr (fun q hq => ?_), cd_iff.mpr ⟨List.pairwise_append.mpr ⟨hd1.1, hpw.2.1, fun a ha b hb hab => ?_⟩, fun q hq => ?_⟩⟩
  · rcases List.mem_append.mp hq with h | h
    · exact hp1 q h
    · exact (hp q (List.mem_append_right _ h)).kept (hk q.1 (hout q h).1 (hout q h).2)
  · have h1 := hd1.2 a ha
    rw [show a.1 = b.1 from hab] at h1
    exact (hout b hb).2 h1
  · rcases List.mem_append.mp hq with h | h
    · exact hF _ (hd1.2 q h)
    · exact hd.2 q (List.mem_append_right _ h)
theorem cw_range (Ws : List va_W) : (List.range Ws.length).filterMap (fun i => Ws[i]?) = Ws := by
  induction Ws with
  | nil => rfl
  | cons w Ws ih =>
    rw [List.length_cons, List.range_succ_eq_map, List.filterMap_cons, List.filterMap_map]
    simpa [Function.comp_def] using ih
theorem cw_perm {Ws Wc Wr : List va_W} (ps : List Nat) (n : Nat) (hn : Ws.length = n) (h : ps.Perm (List.range n)) (he : ps.filterMap (fun i => Ws[i]?) = Wc ++ Wr) : Ws.flatten.Perm (Wc.flatten ++ Wr.flatten) := by
  subst hn
  have h1 := h.filterMap (fun i => Ws[i]?)
  rw [he, cw_range] at h1
  have h2 := h1.symm.flatten
  rwa [List.flatten_append] at h2
abbrev tyC (dA : Nat → ClassId) : List (ClassId × FieldType) := [(dA 0, .long), (dA 1, .byte), (dA 2, .int), (dA 3, .char), (dA 4, .object "java/lang/Object")]
def WdC (D : va_G) (A : Nat → Prop) (s : State) (Ws : List va_W) (H : Heap) (locs : List Loc) : Prop := va_P D classes Ws.flatten H ∧ va_D A Ws.flatten ∧ va_S A s.heap H locs
def PC (D : va_G) (dA : Nat → ClassId) (z : Nat → Nat) (Ws : List va_W) : State → Prop := fun U => va_P D classes Ws.flatten U.heap ∧ va_K D classes (tyC dA) U ∧ va_D (fun _ => True) Ws.flatten ∧ EX dA z (va_A Ws.flatten U.heap.size) U U.heap
def QC (D : va_G) (A : Nat → Prop) (Po : List va_W → Option Value → Prop) : Array Value → State → Outcome → State → Prop := fun _ st oc t =>
  (∃ (Ws' : List va_W) (ov : Option Value), Po Ws' ov ∧ oc = .returned ov ∧ va_P D classes Ws'.flatten t.heap ∧ va_D A Ws'.flatten) ∧ va_F A st t
abbrev rmC (f lo dc ds : Nat) : Room := { frames := f, cells := dc, slots := ds, locals := lo }
/-- a method that may write and make cells: from the world Ws, with these arguments, to a world and an answer of Po -/
def KC (l : Launch) (D : va_G) (dA : Nat → ClassId) (z : Nat → Nat) (y : MethodName) (cc : ByteArray) (nL : Nat) (rt : Option FieldType) (f lo dc ds : Nat) (Ws : List va_W) (As : List Value) (Po : List va_W → Option Value → Prop) : Prop :=
  ∀ sz, Met l y (.code y cc nL rt :: lw_gd) (rmC f lo dc ds) (va_Pc As (fun U => U.heap.size = sz ∧ PC D dA z Ws U)) (QC D (va_A Ws.flatten sz) Po) dc ds (va_A Ws.flatten sz)
/-- one that only reads -/
def KQ (l : Launch) (D : va_G) (dA : Nat → ClassId) (z : Nat → Nat) (y : MethodName) (cc : ByteArray) (nL : Nat) (rt : Option FieldType) (f lo : Nat) (Ws : List va_W) (As : List Value) (ov : Option Value) : Prop :=
  Met l y (.code y cc nL rt :: lw_gd) (rmC f lo 0 0) (va_Pc As (PC D dA z Ws)) (QS ov) 0 0 (fun _ => False)
def CxC (R0 : String) (p : Program) (s : State) (m : MethodId) (args : Array Value) (meth : Method) (c : Code) (cc : ByteArray) (nL : Nat) (rt : Option FieldType) (D : va_G) (dA : Nat → ClassId) (z : Nat → Nat) (A : Nat → Prop) : Prop :=
  CxS R0 p s m args meth c cc nL rt ∧ va_K D classes (tyC dA) s ∧ (∀ q : Nat, s.heap.size ≤ q → A q) ∧ EX dA z A s s.heap
section
variable {p : Program} {l : Launch} {e : Env} {R : Room} {s : State} {m : MethodId} {args : Array Value} {below : List Frame} {meth : Method} {c : Code} {H : Heap} {locs : List Loc} {cells slots mc ms : Nat} {Q : State → Prop} {pc : Nat} {ls : Array Slot} {rest st0 : List Value} {cc : ByteArray} {nL : Nat} {rt : Option FieldType} {D : va_G} {dA : Nat → ClassId} {z : Nat → Nat} {A : Nat → Prop} {R0 : String} {Ws Wc Wr : List va_W} {Po : List va_W → Option Value → Prop} {f lo dc ds : Nat}
theorem x_enterC {y : MethodName} {As : List Value} (hy : plainName y.cls = true) (hlen : (lg_sl As).length ≤ nL)
    (body : ∀ (p : Program) (e : Env) (s : State) (m : MethodId) (args : Array Value) (below : List Frame) (meth : Method) (c : Code) (A : Nat → Prop), CxC y.cls p s m args meth c cc nL rt D dA z A → meth.name = y.name → WdC D A s Ws s.heap [] → ∀ ls, lv_has ls nL (lv_args 0 As) → W p l e (rmC f lo dc ds) s m args below meth c s.heap [] 0 0 (MQ below (QC D A Po) args s dc ds A) (F0 m 0 ls [])) : KC l D dA z y cc nL rt f lo dc ds Ws As Po := by
  intro sz
  refine Met.ofW (cc := cc) (maxL := nL) (ret := rt) hy rfl ?_
  intro p e s m args below meth c s₁ B hml hv
  obtain ⟨rfl, hsz, hP, hK, hD0, hEX⟩ := hv
  have hts := atoms_spec (ws := .code y cc nL rt :: lw_gd) B.pre
  have hown : s.vm.findClass y.cls = some m.cls := findClass_of_methodNamed B.named
  subst hsz
  have hl := lv_entry As (n := nL) hlen
  rw [lg_entry_eq]
  exact body p e s m _ below meth c _ ⟨⟨B.exec, B.bytes, hml, B.returns, hown, fun w h => hts w (List.mem_cons_of_mem _ h), B.notSynchronized⟩, hK, fun q h => Or.inr h, hEX⟩ (name_of_methodNamed B.named B.method).1 ⟨hP, hD0.self, va_S.rf⟩ _ hl
theorem x_enterQ {y : MethodName} {As : List Value} {ov : Option Value} (hy : plainName y.cls = true) (hlen : (lg_sl As).length ≤ nL)
    (body : ∀ (p : Program) (e : Env) (s : State) (m : MethodId) (args : Array Value) (below : List Frame) (meth : Method) (c : Code) (A : Nat → Prop), CxC y.cls p s m args meth c cc nL rt D dA z A → WdC D A s Ws s.heap [] → ∀ ls, lv_has ls nL (lv_args 0 As) → W p l e (rmC f lo 0 0) s m args below meth c s.heap [] 0 0 (MQ below (QS ov) args s 0 0 (fun _ => False)) (F0 m 0 ls [])) : KQ l D dA z y cc nL rt f lo Ws As ov := by
  refine Met.ofW (cc := cc) (maxL := nL) (ret := rt) hy rfl ?_
  intro p e s m args below meth c s₁ B hml hv
  obtain ⟨rfl, hP, hK, hD0, hEX⟩ := hv
  have hts := atoms_spec (ws := .code y cc nL rt :: lw_gd) B.pre
  have hown : s.vm.findClass y.cls = some m.cls := findClass_of_methodNamed B.named
  have hl := lv_entry As (n := nL) hlen
  rw [lg_entry_eq]
  exact body p e s m _ below meth c (va_A Ws.flatten s.heap.size) ⟨⟨B.exec, B.bytes, hml, B.returns, hown, fun w h => hts w (List.mem_cons_of_mem _ h), B.notSynchronized⟩, hK, fun q h => Or.inr h, hEX⟩ ⟨hP, hD0.self, va_S.rf⟩ _ hl
/-! ends -/
theorem x_retCv (C : CxC R0 p s m args meth c cc nL rt D dA z A) (hr : rt = none) (hW : WdC D A s Ws H locs) (hPo : Po Ws none) (hc : cells ≤ dc) (hs : slots ≤ ds) (hdg : decode cc pc = .ok (.return_, 1)) :
    W p l e R s m args below meth c H locs cells slots (MQ below (QC D A Po) args s dc ds A) (F0 m pc ls []) := by
  obtain ⟨⟨hx, hb, hml, hrt, hown, hT, hlk⟩, hK, hA, hEX⟩ := C
  refine W.widen (k := dc) (n := ds) hc hs ?_
  exact W.vret hx hb (hrt.trans hr) (fun t ht _ => ⟨⟨Ws, none, hPo, rfl, by rw [ht]; exact hW.1, hW.2.1⟩, hW.2.2.F ht⟩) hW.2.2.2.2 hdg hlk
theorem x_retCi {v : Int32} (C : CxC R0 p s m args meth c cc nL rt D dA z A) (hr : rt = some .int) (hW : WdC D A s Ws H locs) (hPo : Po Ws (some (.int v))) (hc : cells ≤ dc) (hs : slots ≤ ds) (hdg : decode cc pc = .ok (.ireturn, 1)) :
    W p l e R s m args below meth c H locs cells slots (MQ below (QC D A Po) args s dc ds A) (F0 m pc ls [.int v]) := by
  obtain ⟨⟨hx, hb, hml, hrt, hown, hT, hlk⟩, hK, hA, hEX⟩ := C
  refine W.widen (k := dc) (n := ds) hc hs ?_
  exact W.iret hx hb (hrt.trans hr) (fun t ht _ => ⟨⟨Ws, _, hPo, rfl, by rw [ht]; exact hW.1, hW.2.1⟩, hW.2.2.F ht⟩) hW.2.2.2.2 hdg hlk
theorem x_retCz {v : Int32} {ty : FieldType} (C : CxC R0 p s m args meth c cc nL rt D dA z A) (hr : rt = some ty) (hn : narrow ty (.int v) = .int v) (hW : WdC D A s Ws H locs) (hPo : Po Ws (some (.int v))) (hc : cells ≤ dc) (hs : slots ≤ ds) (hdg : decode cc pc = .ok (.ireturn, 1)) :
    W p l e R s m args below meth c H locs cells slots (MQ below (QC D A Po) args s dc ds A) (F0 m pc ls [.int v]) := by
  obtain ⟨⟨hx, hb, hml, hrt, hown, hT, hlk⟩, hK, hA, hEX⟩ := C
  refine W.widen (k := dc) (n := ds) hc hs ?_
  exact W.zret hx hb (hrt.trans hr) hn (fun t ht _ => ⟨⟨Ws, _, hPo, rfl, by rw [ht]; exact hW.1, hW.2.1⟩, hW.2.2.F ht⟩) hW.2.2.2.2 hdg hlk
theorem x_retCa {a : Nat} {ty : FieldType} (C : CxC R0 p s m args meth c cc nL rt D dA z A) (hr : rt = some ty) (hty : (∃ n, ty = .object n) ∨ ∃ t, ty = .array t) (hW : WdC D A s Ws H locs) (hPo : Po Ws (some (.ref a))) (hc : cells ≤ dc) (hs : slots ≤ ds) (hdg : decode cc pc = .ok (.areturn, 1)) :
    W p l e R s m args below meth c H locs cells slots (MQ below (QC D A Po) args s dc ds A) (F0 m pc ls [.ref a]) := by
  obtain ⟨⟨hx, hb, hml, hrt, hown, hT, hlk⟩, hK, hA, hEX⟩ := C
  refine W.widen (k := dc) (n := ds) hc hs ?_
  exact W.aret hx hb (hrt.trans hr) hty (Or.inr ⟨a, rfl⟩) (fun t ht _ => ⟨⟨Ws, _, hPo, rfl, by rw [ht]; exact hW.1, hW.2.1⟩, hW.2.2.F ht⟩) hW.2.2.2.2 hdg hlk
theorem x_retQa {a : Nat} {ty : FieldType} (C : CxS R0 p s m args meth c cc nL rt) (hr : rt = some ty) (hty : (∃ n, ty = .object n) ∨ ∃ t, ty = .array t) (hdg : decode cc pc = .ok (.areturn, 1)) :
    W p l e R s m args below meth c s.heap [] 0 0 (MQ below (QS (some (.ref a))) args s 0 0 (fun _ => False)) (F0 m pc ls [.ref a]) := by
  obtain ⟨hx, hb, hml, hrt, hown, hT, hlk⟩ := C
  exact W.aret hx hb (hrt.trans hr) hty (Or.inr ⟨a, rfl⟩) (fun t ht hW => ⟨rfl, ht⟩) (fun q h => by cases h) hdg hlk
/-! behind a call -/
theorem x_joinC {Qa : State → Outcome → State → Prop} {rm : Room} {free : Nat → Prop} (C : CxC R0 p s m args meth c cc nL rt D dA z A) (hW : WdC D A s Ws H locs) (ps : List Nat) (n : Nat) (hn : Ws.length = n) (hps : ps.Perm (List.range n)) (he : ps.filterMap (fun i => Ws[i]?) = Wc ++ Wr)
    (hQ : ∀ st oc t, Qa st oc t → QC D (va_A Wc.flatten H.size) Po #[] st oc t) (hf : ∀ q, free q → va_A Wc.flatten H.size q)
    (hr : va_Run p l e R s m args below meth c H locs cells slots dc ds (F0 m pc ls st0) rest Qa free)
    (kk : ∀ (Wc' : List va_W) (ov : Option Value) (H1 : Heap) (locs1 : List Loc), Po Wc' ov → (∀ Ws' : List va_W, Ws'.length = n → ps.filterMap (fun i => Ws'[i]?) = Wc' ++ Wr → WdC D A s Ws' H1 locs1) → W p l e R s m args below meth c H1 locs1 (cells + dc) (slots + ds) Q (F0 m (pc + 3) ls (ov.toList ++ rest))) : W p l e R s m args below meth c H locs cells slots Q (F0 m pc ls st0) := by
  obtain ⟨-, hK, hA, hEX⟩ := C
  have hp := cw_perm ps n hn hps he
  have hP := cp_perm hp hW.1
  have hD := cd_perm hp hW.2.1
  have hFc : ∀ q, va_A Wc.flatten H.size q → A q := by
    intro q hq
    rcases hq with ⟨k, e, hk⟩ | hq
    · exact (cd_iff.mp hD).2 (q, e) (List.mem_append_left _ (List.mem_of_getElem? hk))
    · exact hA q (Nat.le_trans hW.2.2.1 hq)
  intro T hT X
  obtain ⟨v, st₀, t, T', L, h0, X', hL, e1, e2, hq, st⟩ := hr T hT X
  obtain ⟨⟨Wc', ov, hPo, hv, hP1, hD1⟩, hz, hk⟩ := hQ _ _ _ hq
  cases hv
  rw [h0] at hz hk
  have hjoin := cp_join (H1 := T'.heap) hP hD (fun q h1 h2 => by rw [e1]; exact hk q h1 h2) hFc (by rw [e1]; exact hP1) hD1
  have hS : va_S A s.heap T'.heap (locs ++ L) := by
    refine ⟨Nat.le_trans hW.2.2.1 (by rw [e1]; exact hz), fun q h1 h2 => ?_, fun q hq => ?_⟩
    · rw [e1, hk q (Nat.lt_of_lt_of_le h1 hW.2.2.1) (fun z => h2 (hFc q z))]
      exact hW.2.2.2.1 q h1 h2
    · rcases List.mem_append.mp hq with h | h
      · exact hW.2.2.2.2 q h
      · exact hFc _ (hf _ (hL q h))
  obtain ⟨t2, a1, b1⟩ := kk Wc' v T'.heap (locs ++ L) hPo (fun Ws' hn' he' => ⟨cp_perm (cw_perm ps n hn' hps he').symm hjoin.1, cd_perm (cw_perm ps n hn' hps he').symm hjoin.2, hS⟩) T' rfl X'
  exact ⟨t2, st t2 a1, b1⟩
/-- what a callee's start asks, out of the caller's world -/
theorem x_preC (C : CxC R0 p s m args meth c cc nL rt D dA z A) (hW : WdC D A s Ws H locs) {ps : List Nat} {n : Nat} (hn : Ws.length = n) (hps : ps.Perm (List.range n)) (he : ps.filterMap (fun i => Ws[i]?) = Wc ++ Wr) : ∀ U : State, U.heap = H → s.WarmedH U.vm → PC D dA z Wc U := by
  intro U hU hw
  have hp := cw_perm ps n hn hps he
  have hP := cp_perm hp hW.1
  have hD := cd_perm hp hW.2.1
  have hd := cd_iff.mp hD
  exact ⟨by rw [hU]; exact cp_iff.mpr (fun q hq => cp_iff.mp hP q (List.mem_append_left _ hq)), va_K.moved hw.alike C.2.1, cd_iff.mpr ⟨(List.pairwise_append.mp hd.1).1, fun _ _ => trivial⟩, by
    rw [hU]
    refine ((C.2.2.2.warm hw).kept (fun a h1 h2 => hW.2.2.2.1 a h1 h2)).narrow (fun q hq => ?_)
    rcases hq with ⟨k, e, hk⟩ | hq
    · exact (cd_iff.mp hD).2 (q, e) (List.mem_append_left _ (List.mem_of_getElem? hk))
    · exact C.2.2.1 q (Nat.le_trans hW.2.2.1 hq)⟩
theorem pc_blind {As : List Value} : FrameBlind (va_Pc As (PC D dA z Wc)) := fun a U g mk q => ⟨q.1, q.2.1, va_K.moved (u := U) (U := U.calling g mk a) (Vm.Alike.refl U.vm) q.2.2.1, q.2.2.2.1, q.2.2.2.2.same rfl⟩
theorem pc_blindS {As : List Value} {sz : Nat} : FrameBlind (va_Pc As (fun U => U.heap.size = sz ∧ PC D dA z Wc U)) := fun a U g mk q => ⟨q.1, q.2.1, q.2.2.1, va_K.moved (u := U) (U := U.calling g mk a) (Vm.Alike.refl U.vm) q.2.2.2.1, q.2.2.2.2.1, q.2.2.2.2.2.same rfl⟩
/-- an instance method is called on an object of class C0, which stands in the caller's world -/
theorem x_callC {cc' : ByteArray} {nL' idx n n' ci q0 b : Nat} {rt' : Option FieldType} {y : MethodName} {As : List Value} {vc : vw_C} {fs : List Value} (C : CxC R0 p s m args meth c cc nL rt D dA z A) (hW : WdC D A s Ws H locs) (hM : KC l D dA z y cc' nL' rt' f lo dc ds Wc (.ref b :: As) Po)
    (ps : List Nat) (hn' : Ws.length = n') (hps : ps.Perm (List.range n')) (he : ps.filterMap (fun i => Ws[i]?) = Wc ++ Wr) (hcl : classes[ci]? = some vc) (hob : Ws.flatten[q0]? = some (b, .inr (ci, fs)))
    (hG : GoodIn lw_gd (wsV R0 idx vc.1 y (.code y cc' nL' rt' :: lw_gd))) (hd : y.cls = vc.1 ∧ y.cls ≠ "java/lang/invoke/MethodHandle" ∧ y.cls ≠ "java/lang/invoke/VarHandle" ∧ (parseMethodDescriptor y.desc).map (fun d => d.parameters.length) = some n)
    (hR : f + 1 ≤ R.frames ∧ 8 + (nL' + 11) + lo ≤ R.locals) (hcs : cells + dc ≤ R.cells ∧ slots + ds ≤ R.slots) (hn : As.length = n) (hsz : ls.size = nL) (hst : st0 = As.reverse ++ .ref b :: rest) (hc : (rest.map fun v => v.category).sum ≤ 8) (hdg : decode cc pc = .ok (.invokevirtual idx, 3))
    (kk : ∀ (Wc' : List va_W) (ov : Option Value) (H1 : Heap) (locs1 : List Loc), Po Wc' ov → (∀ Ws' : List va_W, Ws'.length = n' → ps.filterMap (fun i => Ws'[i]?) = Wc' ++ Wr → WdC D A s Ws' H1 locs1) → W p l e R s m args below meth c H1 locs1 (cells + dc) (slots + ds) Q (F0 m (pc + 3) ls (ov.toList ++ rest))) : W p l e R s m args below meth c H locs cells slots Q (F0 m pc ls st0) := by
  have C' := C
  obtain ⟨⟨hx, hb, hml, hrt, hown, hT, hlk⟩, hK, hA, hEX⟩ := C'
  have hrun := va_runV (l := l) (e := e) (R := R) (below := below) (meth := meth) (H := H) (locs := locs) (cells := cells) (slots := slots) (g := F0 m pc ls st0) (rest := rest) (As := As) ⟨hx, hb, hml, hown, hT⟩ (hM H.size) (cwV n hT hG rfl rfl rfl hd hR) ⟨pc_blindS, va_recv hK hW.1 hcl hob, fun U hU hw => ⟨rfl, by rw [hU], x_preC C hW hn' hps he U hU hw⟩⟩ rfl hn hsz hst (lv_room hc) hdg hcs
  exact x_joinC (rm := rmC f lo dc ds) C hW ps n' hn' hps he (fun st oc t h => h) (fun q h => h) hrun kk
theorem x_callQ {cc' : ByteArray} {nL' idx n n' ci q0 b : Nat} {rt' : Option FieldType} {y : MethodName} {As : List Value} {vc : vw_C} {fs : List Value} {ov : Option Value} (C : CxC R0 p s m args meth c cc nL rt D dA z A) (hW : WdC D A s Ws H locs) (hM : KQ l D dA z y cc' nL' rt' f lo Wc (.ref b :: As) ov)
    (ps : List Nat) (hn' : Ws.length = n') (hps : ps.Perm (List.range n')) (he : ps.filterMap (fun i => Ws[i]?) = Wc ++ Wr) (hcl : classes[ci]? = some vc) (hob : Ws.flatten[q0]? = some (b, .inr (ci, fs)))
    (hG : GoodIn lw_gd (wsV R0 idx vc.1 y (.code y cc' nL' rt' :: lw_gd))) (hd : y.cls = vc.1 ∧ y.cls ≠ "java/lang/invoke/MethodHandle" ∧ y.cls ≠ "java/lang/invoke/VarHandle" ∧ (parseMethodDescriptor y.desc).map (fun d => d.parameters.length) = some n)
    (hR : f + 1 ≤ R.frames ∧ 8 + (nL' + 11) + lo ≤ R.locals) (hcs : cells ≤ R.cells ∧ slots ≤ R.slots) (hn : As.length = n) (hsz : ls.size = nL) (hst : st0 = As.reverse ++ .ref b :: rest) (hc : (rest.map fun v => v.category).sum ≤ 8) (hdg : decode cc pc = .ok (.invokevirtual idx, 3))
    (kk : W p l e R s m args below meth c H locs cells slots Q (F0 m (pc + 3) ls (ov.toList ++ rest))) : W p l e R s m args below meth c H locs cells slots Q (F0 m pc ls st0) := by
  have C' := C
  obtain ⟨⟨hx, hb, hml, hrt, hown, hT, hlk⟩, hK, hA, hEX⟩ := C'
  have hrun := va_runV (l := l) (e := e) (R := R) (below := below) (meth := meth) (H := H) (locs := locs) (cells := cells) (slots := slots) (g := F0 m pc ls st0) (rest := rest) (As := As) ⟨hx, hb, hml, hown, hT⟩ hM (cwV n hT hG rfl rfl rfl hd hR) ⟨pc_blind, va_recv hK hW.1 hcl hob, fun U hU hw => ⟨rfl, x_preC C hW hn' hps he U hU hw⟩⟩ rfl hn hsz hst (lv_room hc) hdg hcs
  intro T hT' X
  obtain ⟨v, st₀, t, T', L, h0, X', hL, e1, e2, ⟨hq, hk⟩, st⟩ := hrun T hT' X
  cases hq
  have hLn : L = [] := by
    cases L with
    | nil => rfl
    | cons a L => exact absurd (hL a List.mem_cons_self) (fun z => z)
  subst hLn
  rw [List.append_nil] at X'
  have hh : T'.heap = H := e1.trans (hk.trans h0)
  obtain ⟨t2, a1, b1⟩ := kk T' hh X'
  exact ⟨t2, st t2 a1, b1⟩
/-- a static method of any class, over a part of the world -/
theorem x_callT {cc' : ByteArray} {nL' idx n n' : Nat} {rt' : Option FieldType} {y : MethodName} {As : List Value} (C : CxC R0 p s m args meth c cc nL rt D dA z A) (hW : WdC D A s Ws H locs) (hM : KC l D dA z y cc' nL' rt' f lo dc ds Wc As Po)
    (ps : List Nat) (hn' : Ws.length = n') (hps : ps.Perm (List.range n')) (he : ps.filterMap (fun i => Ws[i]?) = Wc ++ Wr)
    (h0 : Cond.code y cc' nL' rt' ∈ lw_gd) (h1 : Cond.methodLink R0 idx y ∈ lw_gd) (h2 : Cond.static y ∈ lw_gd) (h3 : Cond.initialized y.cls ∈ lw_gd) (hd : y.cls ≠ "java/lang/invoke/MethodHandle" ∧ y.cls ≠ "java/lang/invoke/VarHandle" ∧ (parseMethodDescriptor y.desc).map (fun d => d.parameters.length) = some n)
    (hR : f + 1 ≤ R.frames ∧ 8 + (nL' + 11) + lo ≤ R.locals) (hcs : cells + dc ≤ R.cells ∧ slots + ds ≤ R.slots) (hn : As.length = n) (hsz : ls.size = nL) (hst : st0 = As.reverse ++ rest) (hc : (rest.map fun v => v.category).sum ≤ 8) (hdg : decode cc pc = .ok (.invokestatic idx, 3))
    (kk : ∀ (Wc' : List va_W) (ov : Option Value) (H1 : Heap) (locs1 : List Loc), Po Wc' ov → (∀ Ws' : List va_W, Ws'.length = n' → ps.filterMap (fun i => Ws'[i]?) = Wc' ++ Wr → WdC D A s Ws' H1 locs1) → W p l e R s m args below meth c H1 locs1 (cells + dc) (slots + ds) Q (F0 m (pc + 3) ls (ov.toList ++ rest))) : W p l e R s m args below meth c H locs cells slots Q (F0 m pc ls st0) := by
  have C' := C
  obtain ⟨⟨hx, hb, hml, hrt, hown, hT, hlk⟩, hK, hA, hEX⟩ := C'
  have hrun := va_runS (l := l) (e := e) (R := R) (below := below) (meth := meth) (H := H) (locs := locs) (cells := cells) (slots := slots) (g := F0 m pc ls st0) (rest := rest) (As := As) ⟨hx, hb, hml, hown, hT⟩ (hM H.size) ⟨callB_of n hT (lw_GI h0) rfl rfl rfl (hT _ h3) (hT _ h1) hd hR, hT _ h2⟩ ⟨pc_blindS, fun U hU hw => ⟨rfl, by rw [hU], x_preC C hW hn' hps he U hU hw⟩⟩ rfl hn hsz hst (lv_room hc) hdg hcs
  exact x_joinC (rm := rmC f lo dc ds) C hW ps n' hn' hps he (fun st oc t h => h) (fun q h => h) hrun kk
/-- a static method of any class that needs no world -/
theorem x_callU {cc' : ByteArray} {nL' idx n : Nat} {rt' : Option FieldType} {y : MethodName} {rm : Room} {As : List Value} {ov : Option Value} (C : CxS R0 p s m args meth c cc nL rt) (hM : KS l y cc' nL' rt' rm As ov)
    (h0 : Cond.code y cc' nL' rt' ∈ lw_gd) (h1 : Cond.methodLink R0 idx y ∈ lw_gd) (h2 : Cond.static y ∈ lw_gd) (h3 : Cond.initialized y.cls ∈ lw_gd) (hd : y.cls ≠ "java/lang/invoke/MethodHandle" ∧ y.cls ≠ "java/lang/invoke/VarHandle" ∧ (parseMethodDescriptor y.desc).map (fun d => d.parameters.length) = some n) (hrm : rm.cells = 0 ∧ rm.slots = 0)
    (hR : rm.frames + 1 ≤ R.frames ∧ 8 + (nL' + 11) + rm.locals ≤ R.locals) (hcs : cells ≤ R.cells ∧ slots ≤ R.slots) (hn : As.length = n) (hsz : ls.size = nL) (hst : st0 = As.reverse ++ rest) (hc : (rest.map fun v => v.category).sum ≤ 8) (hdg : decode cc pc = .ok (.invokestatic idx, 3))
    (kk : W p l e R s m args below meth c H locs cells slots Q (F0 m (pc + 3) ls (ov.toList ++ rest))) : W p l e R s m args below meth c H locs cells slots Q (F0 m pc ls st0) := by
  obtain ⟨hx, hb, hml, hrt, hown, hT, hlk⟩ := C
  have hrun := va_runS (l := l) (e := e) (R := R) (below := below) (meth := meth) (H := H) (locs := locs) (cells := cells) (slots := slots) (g := F0 m pc ls st0) (rest := rest) (As := As) ⟨hx, hb, hml, hown, hT⟩ hM ⟨callB_of n hT (lw_GI h0) rfl hrm.1 hrm.2 (hT _ h3) (hT _ h1) hd hR, hT _ h2⟩ ⟨fun a U g mk q => q, fun U hU hW => ⟨rfl, trivial⟩⟩ rfl hn hsz hst (lv_room hc) hdg hcs
  intro T hT' X
  obtain ⟨v, st₀, t, T', L, h0, X', hL, e1, e2, ⟨hq, hk⟩, st⟩ := hrun T hT' X
  cases hq
  have hLn : L = [] := by
    cases L with
    | nil => rfl
    | cons a L => exact absurd (hL a List.mem_cons_self) (fun z => z)
  subst hLn
  rw [List.append_nil] at X'
  have hh : T'.heap = H := e1.trans (hk.trans h0)
  obtain ⟨t2, a1, b1⟩ := kk T' hh X'
  exact ⟨t2, st t2 a1, b1⟩
end
