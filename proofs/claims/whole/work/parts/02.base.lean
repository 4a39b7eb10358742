/-! ===== words ===== -/
def lw_gd : List Cond := lw_tbl.filter goodWord
theorem lw_gdm {w : Cond} (h : w ∈ tables_1) (g : goodWord w = true) : w ∈ lw_gd := List.mem_filter.mpr ⟨List.mem_append_right _ h, g⟩
theorem lw_gds {w : Cond} (h : w ∈ k2_sels lw_privs) (g : goodWord w = true) : w ∈ lw_gd := List.mem_filter.mpr ⟨List.mem_append_left _ h, g⟩
theorem lw_gdt {w : Cond} (h : w ∈ lw_gd) : w ∈ lw_tbl := (List.mem_filter.mp h).1
theorem lw_gdg {w : Cond} (h : w ∈ lw_gd) : (w.onTables && w.keeps) = true ∨ ∃ ty, w = .arrayClass ty := good_of_word (List.mem_filter.mp h).2
theorem lw_GI {c : Cond} (h : c ∈ lw_gd) : GoodIn lw_gd (c :: lw_gd) := fun w hw => (List.mem_cons.mp hw).elim (fun e => e ▸ ⟨h, lw_gdg h⟩) (fun h => ⟨h, lw_gdg h⟩)
theorem lw_GV {c : Cond} {own C : String} {idx : Nat} {y : MethodName} (h : c ∈ lw_gd) (h1 : Cond.methodLink own idx y ∈ lw_gd) (h2 : Cond.instanceMethod y ∈ lw_gd) (h3 : Cond.selects C y y ∈ lw_gd) (h4 : Cond.initialized C ∈ lw_gd) : GoodIn lw_gd (wsV own idx C y (c :: lw_gd)) := by
  intro w hw
  rcases List.mem_append.mp hw with hw | hw
  · have : w ∈ lw_gd := by
      simp only [List.mem_cons, List.not_mem_nil, or_false] at hw
      rcases hw with rfl | rfl | rfl | rfl <;> assumption
    exact ⟨this, lw_gdg this⟩
  · exact lw_GI h w hw
theorem lw_GS {c : Cond} {own : String} {idx : Nat} {y : MethodName} (h : c ∈ lw_gd) (h1 : Cond.methodLink own idx y ∈ lw_gd) (h2 : Cond.static y ∈ lw_gd) (h4 : Cond.initialized own ∈ lw_gd) : GoodIn lw_gd (wsS own idx y (c :: lw_gd)) := by
  intro w hw
  rcases List.mem_append.mp hw with hw | hw
  · have : w ∈ lw_gd := by
      simp only [List.mem_cons, List.not_mem_nil, or_false] at hw
      rcases hw with rfl | rfl | rfl <;> assumption
    exact ⟨this, lw_gdg this⟩
  · exact lw_GI h w hw
/-! ===== how models are written ===== -/
def gd {α : Type} (b : Bool) (x : Option α) : Option α := if b = true then x else none
theorem gd_some {α : Type} {b : Bool} {x : Option α} {R : α} (h : gd b x = some R) : b = true ∧ x = some R := by
  unfold gd at h
  split at h
  · exact ⟨by assumption, h⟩
  · cases h
def bnd {α β : Type} (e : α) (k : α → β) : β := k e
theorem bnd_some {α β : Type} {e : α} {k : α → Option β} {R : β} (h : bnd e k = some R) : ∃ y, y = e ∧ k y = some R := ⟨e, rfl, h⟩
def cl {α σ β : Type} (o : Option (α × σ)) (k : α → σ → Option β) : Option β := o.bind (fun q => k q.1 q.2)
theorem cl_some {α σ β : Type} {o : Option (α × σ)} {k : α → σ → Option β} {R : β} (h : cl o k = some R) : ∃ r u, o = some (r, u) ∧ k r u = some R := by
  cases o with
  | none => cases h
  | some q => exact ⟨q.1, q.2, rfl, h⟩
def cr {α β : Type} (o : Option α) (k : α → Option β) : Option β := o.bind k
theorem cr_some {α β : Type} {o : Option α} {k : α → Option β} {R : β} (h : cr o k = some R) : ∃ r, o = some r ∧ k r = some R := by
  cases o with
  | none => cases h
  | some q => exact ⟨q, rfl, h⟩
theorem it_t {c : Prop} [Decidable c] {α : Type} {a b x : α} (h : c) (e : (if c then a else b) = x) : a = x := by
  rw [if_pos h] at e
  exact e
theorem it_f {c : Prop} [Decidable c] {α : Type} {a b x : α} (h : ¬ c) (e : (if c then a else b) = x) : b = x := by
  rw [if_neg h] at e
  exact e
theorem sm_i {α : Type} {a b : α} (h : some a = some b) : b = a := (Option.some.inj h).symm
theorem sm_p {α β : Type} {a b : α} {u v : β} (h : some (a, u) = some (b, v)) : b = a ∧ v = u := by
  cases h
  exact ⟨rfl, rfl⟩
def inB (i : Int32) (n : Nat) : Bool := !(decide (i < 0)) && decide (i.toNatClampNeg < n)
theorem inB_in {i : Int32} {n : Nat} (h : inB i n = true) : vp_in i n := by
  simp only [inB, Bool.and_eq_true, Bool.not_eq_true', decide_eq_false_iff_not, decide_eq_true_eq] at h
  exact fun q => q.elim h.1 (fun z => absurd h.2 (Nat.not_lt.mpr z))
def isB (x : Int32) : Bool := decide (x = 0) || decide (x = 1)
theorem isB_n {x : Int32} (h : isB x = true) : narrow .boolean (.int x) = .int x := by
  simp only [isB, Bool.or_eq_true, decide_eq_true_eq] at h
  rcases h with rfl | rfl <;> rfl
theorem isB_f {x : Int32} (h : isB x = true) : fits .boolean (.int x) = true := by
  simp only [isB, Bool.or_eq_true, decide_eq_true_eq] at h
  rcases h with rfl | rfl <;> rfl
def isC (x : Int32) : Bool := decide (narrow .char (.int x) = .int x)
theorem isC_n {x : Int32} (h : isC x = true) : narrow .char (.int x) = .int x := of_decide_eq_true h
def jush (x y : Int32) : Int32 := (x.toUInt32 >>> (y.toUInt32 &&& Int32.toUInt32 31)).toInt32
def jrem (x y : Int32) : Int32 := x - x / y * y
def nz (y : Int32) : Bool := !(decide (y = 0))
theorem nz_ne {y : Int32} (h : nz y = true) : ¬ y = 0 := by
  simpa [nz] using h
section
variable {p : Program} {l : Launch} {e : Env} {R : Room} {s : State} {m : MethodId} {args : Array Value} {below : List Frame} {meth : Method} {c : Code} {H : Heap} {locs : List Loc} {cells slots mc ms : Nat} {Q : State → Prop} {pc : Nat} {ls : Array Slot} {rest st0 : List Value}
theorem x_seti {a b : Int32} (h : b = a) (k : W p l e R s m args below meth c H locs cells slots Q (F0 m pc ls (.int b :: rest))) : W p l e R s m args below meth c H locs cells slots Q (F0 m pc ls (.int a :: rest)) := h ▸ k
theorem x_setl {a b : Int64} (h : b = a) (k : W p l e R s m args below meth c H locs cells slots Q (F0 m pc ls (.long b :: rest))) : W p l e R s m args below meth c H locs cells slots Q (F0 m pc ls (.long a :: rest)) := h ▸ k
/-- a call, whatever it answers -/
theorem x_call {B : State → Prop} {A0 A1 free : Nat → Prop} {H0 : Heap} {ov : Option Value} {Qa : State → Outcome → State → Prop} (hQ : ∀ st v t, Qa st (.returned v) t → v = ov ∧ B t ∧ va_F A1 st t)
    (hr : va_Run p l e R s m args below meth c H locs cells slots mc ms (F0 m pc ls st0) rest Qa free) (hS : va_S A0 H0 H locs) (hA : ∀ q, q < H.size → A1 q → A0 q) (hf : ∀ q, free q → A0 q)
    (kk : ∀ (t : State) (H1 : Heap) (locs1 : List Loc), t.heap = H1 → s.vm.Alike t.vm → B t → H.size ≤ H1.size → (∀ q : Nat, q < H.size → ¬ A1 q → H1[q]? = H[q]?) → va_S A0 H0 H1 locs1 → W p l e R s m args below meth c H1 locs1 (cells + mc) (slots + ms) Q (F0 m (pc + 3) ls (ov.toList ++ rest))) : W p l e R s m args below meth c H locs cells slots Q (F0 m pc ls st0) := by
  intro T hT X
  obtain ⟨v, st₀, t, T', L, h0, X', hL, e1, e2, hq, st⟩ := hr T hT X
  obtain ⟨rfl, hb, hz, hk⟩ := hQ _ _ _ hq
  rw [h0] at hz hk
  obtain ⟨t2, a1, b1⟩ := kk t T'.heap (locs ++ L) e1.symm (by rw [← e2]; exact X'.warmed.alike) hb (by rw [e1]; exact hz) (fun q h1 h2 => by rw [e1]; exact hk q h1 h2)
    ⟨Nat.le_trans hS.1 (by rw [e1]; exact hz), fun q h1 h2 => by rw [e1, hk q (Nat.lt_of_lt_of_le h1 hS.1) (fun z => h2 (hA q (Nat.lt_of_lt_of_le h1 hS.1) z))]; exact hS.2.1 q h1 h2, fun q hq => by
      rcases List.mem_append.mp hq with h | h
      · exact hS.2.2 q h
      · exact hf _ (hL q h)⟩ T' rfl X'
  exact ⟨t2, st t2 a1, b1⟩
/-! ===== static methods without a world ===== -/
def CxS (R0 : String) (p : Program) (s : State) (m : MethodId) (args : Array Value) (meth : Method) (c : Code) (cc : ByteArray) (nL : Nat) (rt : Option FieldType) : Prop :=
  p.tables.exec = Jvm.exec ∧ c.code = cc ∧ c.maxLocals = nL ∧ meth.sig.returnType = rt ∧ s.vm.findClass R0 = some m.cls ∧ (∀ w ∈ lw_gd, w.before args s = true) ∧ meth.locks = false
def QS (ov : Option Value) : Array Value → State → Outcome → State → Prop := fun _ st oc t => oc = .returned ov ∧ t.heap = st.heap
def KS (l : Launch) (y : MethodName) (cc : ByteArray) (nL : Nat) (rt : Option FieldType) (rm : Room) (As : List Value) (ov : Option Value) : Prop :=
  Met l y (.code y cc nL rt :: lw_gd) rm (va_Pc As (fun _ => True)) (QS ov) 0 0 (fun _ => False)
theorem x_enterS {y : MethodName} {cc : ByteArray} {nL : Nat} {rt : Option FieldType} {rm : Room} {As : List Value} {ov : Option Value} (hy : plainName y.cls = true) (hlen : (lg_sl As).length ≤ nL)
    (body : ∀ (p : Program) (e : Env) (s : State) (m : MethodId) (args : Array Value) (below : List Frame) (meth : Method) (c : Code), CxS y.cls p s m args meth c cc nL rt → ∀ ls, lv_has ls nL (lv_args 0 As) → W p l e rm s m args below meth c s.heap [] 0 0 (MQ below (QS ov) args s 0 0 (fun _ => False)) (F0 m 0 ls [])) : KS l y cc nL rt rm As ov := by
  refine Met.ofW (cc := cc) (maxL := nL) (ret := rt) hy rfl ?_
  intro p e s m args below meth c s₁ B hml hv
  obtain ⟨rfl, -⟩ := hv
  have hts := atoms_spec (ws := .code y cc nL rt :: lw_gd) B.pre
  have hown : s.vm.findClass y.cls = some m.cls := findClass_of_methodNamed B.named
  have hl := lv_entry As (n := nL) hlen
  rw [lg_entry_eq]
  exact body p e s m _ below meth c ⟨B.exec, B.bytes, hml, B.returns, hown, fun w h => hts w (List.mem_cons_of_mem _ h), B.notSynchronized⟩ _ hl
theorem x_retS {R0 : String} {cc : ByteArray} {nL : Nat} {rt : Option FieldType} {v : Int32} (C : CxS R0 p s m args meth c cc nL rt) (hr : rt = some .int) (hdg : decode cc pc = .ok (.ireturn, 1)) :
    W p l e R s m args below meth c s.heap [] 0 0 (MQ below (QS (some (.int v))) args s 0 0 (fun _ => False)) (F0 m pc ls [.int v]) := by
  obtain ⟨hx, hb, hml, hrt, hown, hT, hlk⟩ := C
  exact W.iret hx hb (hrt.trans hr) (fun t ht hW => ⟨rfl, ht⟩) (fun q h => by cases h) hdg hlk
theorem x_retSz {R0 : String} {cc : ByteArray} {nL : Nat} {rt : Option FieldType} {v : Int32} (C : CxS R0 p s m args meth c cc nL rt) (hr : rt = some .boolean) (hv : isB v = true) (hdg : decode cc pc = .ok (.ireturn, 1)) :
    W p l e R s m args below meth c s.heap [] 0 0 (MQ below (QS (some (.int v))) args s 0 0 (fun _ => False)) (F0 m pc ls [.int v]) := by
  obtain ⟨hx, hb, hml, hrt, hown, hT, hlk⟩ := C
  exact W.zret hx hb (hrt.trans hr) (isB_n hv) (fun t ht hW => ⟨rfl, ht⟩) (fun q h => by cases h) hdg hlk
/-- a static method is called: nothing changes -/
theorem x_callS {R0 : String} {cc cc' : ByteArray} {nL nL' idx n : Nat} {rt rt' : Option FieldType} {y : MethodName} {rm : Room} {As : List Value} {ov : Option Value} (C : CxS R0 p s m args meth c cc nL rt) (hM : KS l y cc' nL' rt' rm As ov)
    (hG : GoodIn lw_gd (wsS R0 idx y (.code y cc' nL' rt' :: lw_gd))) (hd : y.cls = R0 ∧ y.cls ≠ "java/lang/invoke/MethodHandle" ∧ y.cls ≠ "java/lang/invoke/VarHandle" ∧ (parseMethodDescriptor y.desc).map (fun d => d.parameters.length) = some n) (hrm : rm.cells = 0 ∧ rm.slots = 0)
    (hR : rm.frames + 1 ≤ R.frames ∧ 8 + (nL' + 11) + rm.locals ≤ R.locals) (hcs : cells ≤ R.cells ∧ slots ≤ R.slots) (hn : As.length = n) (hsz : ls.size = nL) (hst : st0 = As.reverse ++ rest) (hc : (rest.map fun v => v.category).sum ≤ 8) (hdg : decode cc pc = .ok (.invokestatic idx, 3))
    (kk : W p l e R s m args below meth c H locs cells slots Q (F0 m (pc + 3) ls (ov.toList ++ rest))) : W p l e R s m args below meth c H locs cells slots Q (F0 m pc ls st0) := by
  obtain ⟨hx, hb, hml, hrt, hown, hT, hlk⟩ := C
  have hrun := va_runS (l := l) (e := e) (R := R) (below := below) (meth := meth) (H := H) (locs := locs) (cells := cells) (slots := slots) (g := F0 m pc ls st0) (rest := rest) (As := As) ⟨hx, hb, hml, hown, hT⟩ hM (cwS n hT hG rfl hrm.1 hrm.2 hd hR) ⟨fun a U g mk q => q, fun U hU hW => ⟨rfl, trivial⟩⟩ rfl hn hsz hst (lv_room hc) hdg hcs
  intro T hT' X
  obtain ⟨v, st₀, t, T', L, h0, X', hL, e1, e2, ⟨hq, hk⟩, st⟩ := hrun T hT' X
  cases hq
  have hLn : L = [] := by
    cases L with
    | nil => rfl
    | cons a L => exact absurd (hL a List.mem_cons_self) (fun z => z)
  subst hLn
  rw [List.append_nil] at X'
  have hh : T'.heap = H := e1.trans (hk.trans h0)
  obtain ⟨t2, a1, b1⟩ := kk T' hh X'
  exact ⟨t2, st t2 a1, b1⟩
end
