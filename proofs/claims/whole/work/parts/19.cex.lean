/-! ===== what stands behind the tables' good words: nest links, casts, an array's class, statics ===== -/
def ex_L : List Cond := [(Jvm.Cond.methodLinkNest "LineAssembler" (9 : Nat) ({ cls := "LineAssembler$Row", name := "<init>", desc := "()V" } : Jvm.MethodName) "LineAssembler"), (Jvm.Cond.methodLinkNest "LineAssembler$Names" (9 : Nat) ({ cls := "LineAssembler$Row", name := "<init>", desc := "()V" } : Jvm.MethodName) "LineAssembler"), (Jvm.Cond.methodLinkNest "LineAssembler" (25 : Nat) ({ cls := "LineAssembler$Tokens", name := "<init>", desc := "()V" } : Jvm.MethodName) "LineAssembler"), (Jvm.Cond.methodLinkNest "LineAssembler" (35 : Nat) ({ cls := "LineAssembler$Program", name := "<init>", desc := "()V" } : Jvm.MethodName) "LineAssembler"), (Jvm.Cond.methodLinkNest "LineAssembler$Program" (11 : Nat) ({ cls := "LineAssembler$Row", name := "<init>", desc := "()V" } : Jvm.MethodName) "LineAssembler"), (Jvm.Cond.methodLinkNest "LineAssembler$Program" (53 : Nat) ({ cls := "LineAssembler$Item", name := "<init>", desc := "()V" } : Jvm.MethodName) "LineAssembler"), (Jvm.Cond.methodLinkNest "LineAssembler$Formulas" (21 : Nat) ({ cls := "LineAssembler$Row", name := "<init>", desc := "()V" } : Jvm.MethodName) "LineAssembler"), (Jvm.Cond.methodLinkNest "LineAssembler$Encoder" (11 : Nat) ({ cls := "LineAssembler$Row", name := "<init>", desc := "()V" } : Jvm.MethodName) "LineAssembler"), (Jvm.Cond.fieldLinkNest "LineAssembler$Names" (52 : Nat) "LineAssembler$Op" "ALL" "[LLineAssembler$Op;" "LineAssembler"), (Jvm.Cond.fieldLinkNest "LineAssembler$Parser" (94 : Nat) "LineAssembler$Op" "ALL" "[LLineAssembler$Op;" "LineAssembler"), (Jvm.Cond.castable "LineAssembler$Item" "java/lang/Object")]
theorem ex_warm {w : Cond} (h : w ∈ ex_L) {s U : State} (hW : s.WarmedH U.vm) (hZ : va_Nw w s) : va_Nw w U := by
  simp only [ex_L, List.mem_cons, List.not_mem_nil, or_false] at h
  rcases h with rfl | rfl | rfl | rfl | rfl | rfl | rfl | rfl | rfl | rfl | rfl <;> first | exact va_Nw.warmM hW hZ | exact va_Nw.warmF hW hZ | exact va_Nw.warmC hW hZ
theorem ex_same {w : Cond} (h : w ∈ ex_L) {u U : State} (hv : u.vm = U.vm) (hZ : va_Nw w u) : va_Nw w U := by
  simp only [ex_L, List.mem_cons, List.not_mem_nil, or_false] at h
  rcases h with rfl | rfl | rfl | rfl | rfl | rfl | rfl | rfl | rfl | rfl | rfl <;> exact va_Nw.same rfl hv hZ
/-- the list's shared empty array -/
def EXa (dA : Nat → ClassId) (z : Nat → Nat) (A : Nat → Prop) (H : Heap) : Prop := H[z 0]? = some (vp_cell (dA 4) (0, .inr (.inr (.inr (.inr (fun _ => none)))))) ∧ ¬ A (z 0)
def EX (dA : Nat → ClassId) (z : Nat → Nat) (A : Nat → Prop) (U : State) (H : Heap) : Prop :=
  (∀ w ∈ ex_L, va_Nw w U) ∧ va_AO "java/lang/Object" U ∧ va_Z "java/util/ArrayList" "DEFAULTCAPACITY_EMPTY_ELEMENTDATA" "[Ljava/lang/Object;" (.ref (z 0)) A U H ∧ EXa dA z A H
theorem EX.warm {dA : Nat → ClassId} {z : Nat → Nat} {A : Nat → Prop} {s U : State} {H : Heap} (h : EX dA z A s H) (hW : s.WarmedH U.vm) : EX dA z A U H :=
  ⟨fun w hw => ex_warm hw hW (h.1 w hw), h.2.1.moved hW.alike, h.2.2.1.moved hW.alike, h.2.2.2⟩
theorem EX.same {dA : Nat → ClassId} {z : Nat → Nat} {A : Nat → Prop} {u U : State} {H : Heap} (h : EX dA z A u H) (hv : u.vm = U.vm) : EX dA z A U H :=
  ⟨fun w hw => ex_same hw hv (h.1 w hw), h.2.1.moved (hv ▸ Vm.Alike.refl u.vm), h.2.2.1.moved (hv ▸ Vm.Alike.refl u.vm), h.2.2.2⟩
theorem EX.kept {dA : Nat → ClassId} {z : Nat → Nat} {A : Nat → Prop} {U : State} {H H1 : Heap} (h : EX dA z A U H) (hq : ∀ a : Nat, a < H.size → ¬ A a → H1[a]? = H[a]?) : EX dA z A U H1 :=
  ⟨h.1, h.2.1, h.2.2.1.kept hq, by rw [EXa, hq (z 0) (Array.getElem?_eq_some_iff.mp h.2.2.2.1).1 h.2.2.2.2]; exact h.2.2.2⟩
theorem EX.narrow {dA : Nat → ClassId} {z : Nat → Nat} {A B : Nat → Prop} {U : State} {H : Heap} (h : EX dA z A U H) (hAB : ∀ q, B q → A q) : EX dA z B U H :=
  ⟨h.1, h.2.1, h.2.2.1.narrow hAB, h.2.2.2.1, fun q => h.2.2.2.2 (hAB _ q)⟩
