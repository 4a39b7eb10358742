/-! ===== rows over components; states of classes ===== -/
abbrev CS : Type := (Nat → Int32) × (Nat → Nat → Int32) × (Nat → Nat)
def cF (σ : CS) (j : Nat) (v : Int32) : CS := (upd σ.1 j v, σ.2.1, σ.2.2)
def cA (σ : CS) (k i : Nat) (v : Int32) : CS := (σ.1, (fun q => if q = k then upd (σ.2.1 k) i v else σ.2.1 q), σ.2.2)
def cB (σ : CS) (k g : Nat) (f : Nat → Int32) : CS := (σ.1, (fun q => if q = k then f else σ.2.1 q), fun q => if q = k then g else σ.2.2 q)
def rg (σ : CS) (r : Nat) : CS := (fun _ => σ.1 (100 + r), fun _ => σ.2.1 r, fun _ => σ.2.2 r)
def rs (σ : CS) (r : Nat) (τ : CS) : CS := (upd σ.1 (100 + r) (τ.1 0), (fun q => if q = r then τ.2.1 0 else σ.2.1 q), fun q => if q = r then τ.2.2 0 else σ.2.2 q)
/-- one array of a state, alone -/
def ag (σ : CS) (r : Nat) : CS := (fun _ => 0, fun _ => σ.2.1 r, fun _ => σ.2.2 r)
def aset (σ : CS) (r : Nat) (τ : CS) : CS := (σ.1, (fun q => if q = r then τ.2.1 0 else σ.2.1 q), fun q => if q = r then τ.2.2 0 else σ.2.2 q)
def zz (o : Nat → Nat) : Nat → Nat := fun k => o (1000 + k)
def uN (b : Nat → Nat) (k q : Nat) : Nat → Nat := fun j => if j = k then q else b j
def mxs (ks : List Nat) (b' b : Nat → Nat) : Nat → Nat := fun k => if ks.contains (k / 16) = true then b' k else b k
/-- a call that may make cells -/
def ct {α σ β : Type} (o : Option ((α × σ) × (Nat × Nat))) (k : α → σ → Option (β × (Nat × Nat))) : Option (β × (Nat × Nat)) := o.bind (fun q => (k q.1.1 q.1.2).map (fun z => (z.1, (q.2.1 + z.2.1, q.2.2 + z.2.2))))
theorem ct_some {α σ β : Type} {o : Option ((α × σ) × (Nat × Nat))} {k : α → σ → Option (β × (Nat × Nat))} {R : β} {C S : Nat} (h : ct o k = some (R, (C, S))) : ∃ r u d1 e1 d2 e2, o = some ((r, u), (d1, e1)) ∧ k r u = some (R, (d2, e2)) ∧ C = d1 + d2 ∧ S = e1 + e2 := by
  cases o with
  | none => cases h
  | some q =>
    cases hk : k q.1.1 q.1.2 with
    | none => simp [ct, hk] at h
    | some z =>
      simp [ct, hk] at h
      obtain ⟨h1, h2, h3⟩ := h
      exact ⟨q.1.1, q.1.2, q.2.1, q.2.2, z.2.1, z.2.2, rfl, by rw [hk, ← h1], h2.symm, h3.symm⟩
theorem sm_q {α β : Type} {a b : α} {u v : β} {c1 c2 d1 d2 : Nat} (h : some ((a, u), (c1, d1)) = some ((b, v), (c2, d2))) : b = a ∧ v = u ∧ c2 = c1 ∧ d2 = d1 := by
  cases h
  exact ⟨rfl, rfl, rfl, rfl⟩
theorem lv_tdef {x : Int32} {lo hi d : Int} {offs : Array Int} (n : Nat) (ks : List Int32) (h1 : ¬ x.toInt < lo) (h2 : ¬ hi < x.toInt) (hn : ∀ k ∈ ks, ¬ x = k) (hN : hi - lo < n) (hall : ∀ j : Fin n, (ks.any (fun k => k.toInt == lo + (j.val : Int))) = true ∨ offs[j.val]? = some d) : offs[(x.toInt - lo).toNat]? = some d := by
  have hj : (x.toInt - lo).toNat < n := by omega
  rcases hall ⟨_, hj⟩ with h | h
  · obtain ⟨k, hk, he⟩ := List.any_eq_true.mp h
    have he : k.toInt = lo + ((x.toInt - lo).toNat : Int) := eq_of_beq he
    exact absurd (Int32.toInt_inj.mp (by omega)) (hn k hk)
  · exact h
section
variable {p : Program} {l : Launch} {e : Env} {R : Room} {s : State} {m : MethodId} {args : Array Value} {below : List Frame} {meth : Method} {c : Code} {H : Heap} {locs : List Loc} {cells slots : Nat} {Q : State → Prop} {pc : Nat} {ls : Array Slot} {rest : List Value} {cc : ByteArray} {nL : Nat} {rt : Option FieldType} {D : va_G} {dA : Nat → ClassId} {z : Nat → Nat} {A : Nat → Prop} {R0 : String} {Ws Ws' : List va_W}
theorem x_getC (C : CxC R0 p s m args meth c cc nL rt D dA z A) (hW : WdC D A s Ws H locs) (q0 : Nat) {a ci : Nat} {vc : vw_C} {fs : List Value} (he : Ws.flatten[q0]? = some (a, .inr (ci, fs))) (hc : classes[ci]? = some vc) (hin : ∀ w ∈ u_ws vc.1 vc.2.1 vc.2.2, w ∈ lw_gd) (k : Nat) (hk : k < vc.2.2) {idx : Nat} {v : Value} (hl : Cond.fieldLink R0 idx vc.1 (vc.2.1 k).2.1 (vc.2.1 k).2.2.1 ∈ lw_gd) (hR : (vc.2.1 k).1 = vc.1) (hv : fs[k]? = some v) (hdg : decode cc pc = .ok (.getfield idx, 3))
    (kk : W p l e R s m args below meth c H locs cells slots Q (F0 m (pc + 3) ls (v :: rest))) : W p l e R s m args below meth c H locs cells slots Q (F0 m pc ls (.ref a :: rest)) := by
  obtain ⟨⟨hx, hb, hml, hrt, hown, hT, hlk⟩, hK, hA, hEX⟩ := C
  exact va_get (D := D) (ci := ci) (C := vc.1) (T := vc.2.1) (N := vc.2.2) hx hb hT hin hown hK hW.1 q0 he hc k hk (hT _ hl) (fun x h9 => hR ▸ h9) hv hdg kk
theorem x_putC (C : CxC R0 p s m args meth c cc nL rt D dA z A) (hW : WdC D A s Ws H locs) (q0 : Nat) {a ci : Nat} {vc : vw_C} {fs : List Value} (he : Ws.flatten[q0]? = some (a, .inr (ci, fs))) (hc : classes[ci]? = some vc) (hin : ∀ w ∈ u_ws vc.1 vc.2.1 vc.2.2, w ∈ lw_gd) {ty0 : Nat → FieldType} (hty : ∀ k, k < vc.2.2 → parseFieldDescriptor (vc.2.1 k).2.2.1 = some (ty0 k)) (hnm : ∀ a, a < vc.2.2 → ∀ b, b < vc.2.2 → a ≠ b → (vc.2.1 a).2.1 ≠ (vc.2.1 b).2.1) (k : Nat) (hk : k < vc.2.2) {idx : Nat} {v : Value} {ty : FieldType} (hl : Cond.fieldLink R0 idx vc.1 (vc.2.1 k).2.1 (vc.2.1 k).2.2.1 ∈ lw_gd) (hR : (vc.2.1 k).1 = vc.1) (hfin : (vc.2.1 k).2.2.2 = false) (hd : parseFieldDescriptor (vc.2.1 k).2.2.1 = some ty) (hn : narrow ty v = v) (hf : fits ty v = true) (hlen : k < fs.length)
    (hset : Ws.flatten.set q0 (a, .inr (ci, fs.set k v)) = Ws'.flatten) (hdg : decode cc pc = .ok (.putfield idx, 3))
    (kk : ∀ (H1 : Heap) (locs1 : List Loc), WdC D A s Ws' H1 locs1 → W p l e R s m args below meth c H1 locs1 cells slots Q (F0 m (pc + 3) ls rest)) : W p l e R s m args below meth c H locs cells slots Q (F0 m pc ls (v :: .ref a :: rest)) := by
  obtain ⟨⟨hx, hb, hml, hrt, hown, hT, hlk⟩, hK, hA, hEX⟩ := C
  refine va_put (D := D) (ci := ci) (C := vc.1) (T := vc.2.1) (N := vc.2.2) hx hb hT hin ty0 hty hnm hown hK hW.1 hW.2.1 hW.2.2 q0 he hc k hk (hT _ hl) (fun x h9 => hR ▸ h9) hfin hd hn hf hlen hdg (fun H1 locs1 hP hD hS => ?_)
  rw [hset] at hP hD
  exact kk H1 locs1 ⟨hP, hD, hS⟩
theorem x_getCs (C : CxC R0 p s m args meth c cc nL rt D dA z A) (hW : WdC D A s Ws H locs) (q0 : Nat) {a ci : Nat} {vc : vw_C} {fs : List Value} (he : Ws.flatten[q0]? = some (a, .inr (ci, fs))) (hc : classes[ci]? = some vc) (hin : ∀ w ∈ u_ws vc.1 vc.2.1 vc.2.2, w ∈ lw_gd) (k : Nat) (hk : k < vc.2.2) {idx : Nat} {v : Value} {ref : String} (hl : Cond.fieldLink R0 idx ref (vc.2.1 k).2.1 (vc.2.1 k).2.2.1 ∈ lw_gd) (hs : Cond.sameField ref (vc.2.1 k).1 (vc.2.1 k).2.1 (vc.2.1 k).2.2.1 ∈ lw_gd) (hv : fs[k]? = some v) (hdg : decode cc pc = .ok (.getfield idx, 3))
    (kk : W p l e R s m args below meth c H locs cells slots Q (F0 m (pc + 3) ls (v :: rest))) : W p l e R s m args below meth c H locs cells slots Q (F0 m pc ls (.ref a :: rest)) := by
  obtain ⟨⟨hx, hb, hml, hrt, hown, hT, hlk⟩, hK, hA, hEX⟩ := C
  exact va_get (D := D) (ci := ci) (C := vc.1) (T := vc.2.1) (N := vc.2.2) hx hb hT hin hown hK hW.1 q0 he hc k hk (hT _ hl) (fun x h9 => u_same (hT _ hs) x h9) hv hdg kk
theorem x_putCs (C : CxC R0 p s m args meth c cc nL rt D dA z A) (hW : WdC D A s Ws H locs) (q0 : Nat) {a ci : Nat} {vc : vw_C} {fs : List Value} (he : Ws.flatten[q0]? = some (a, .inr (ci, fs))) (hc : classes[ci]? = some vc) (hin : ∀ w ∈ u_ws vc.1 vc.2.1 vc.2.2, w ∈ lw_gd) {ty0 : Nat → FieldType} (hty : ∀ k, k < vc.2.2 → parseFieldDescriptor (vc.2.1 k).2.2.1 = some (ty0 k)) (hnm : ∀ a, a < vc.2.2 → ∀ b, b < vc.2.2 → a ≠ b → (vc.2.1 a).2.1 ≠ (vc.2.1 b).2.1) (k : Nat) (hk : k < vc.2.2) {idx : Nat} {v : Value} {ty : FieldType} {ref : String} (hl : Cond.fieldLink R0 idx ref (vc.2.1 k).2.1 (vc.2.1 k).2.2.1 ∈ lw_gd) (hs : Cond.sameField ref (vc.2.1 k).1 (vc.2.1 k).2.1 (vc.2.1 k).2.2.1 ∈ lw_gd) (hfin : (vc.2.1 k).2.2.2 = false) (hd : parseFieldDescriptor (vc.2.1 k).2.2.1 = some ty) (hn : narrow ty v = v) (hf : fits ty v = true) (hlen : k < fs.length)
    (hset : Ws.flatten.set q0 (a, .inr (ci, fs.set k v)) = Ws'.flatten) (hdg : decode cc pc = .ok (.putfield idx, 3))
    (kk : ∀ (H1 : Heap) (locs1 : List Loc), WdC D A s Ws' H1 locs1 → W p l e R s m args below meth c H1 locs1 cells slots Q (F0 m (pc + 3) ls rest)) : W p l e R s m args below meth c H locs cells slots Q (F0 m pc ls (v :: .ref a :: rest)) := by
  obtain ⟨⟨hx, hb, hml, hrt, hown, hT, hlk⟩, hK, hA, hEX⟩ := C
  refine va_put (D := D) (ci := ci) (C := vc.1) (T := vc.2.1) (N := vc.2.2) hx hb hT hin ty0 hty hnm hown hK hW.1 hW.2.1 hW.2.2 q0 he hc k hk (hT _ hl) (fun x h9 => u_same (hT _ hs) x h9) hfin hd hn hf hlen hdg (fun H1 locs1 hP hD hS => ?_)
  rw [hset] at hP hD
  exact kk H1 locs1 ⟨hP, hD, hS⟩
theorem x_putF (C : CxC R0 p s m args meth c cc nL rt D dA z A) (hW : WdC D A s Ws H locs) (q0 : Nat) {a ci : Nat} {vc : vw_C} {fs : List Value} (he : Ws.flatten[q0]? = some (a, .inr (ci, fs))) (hc : classes[ci]? = some vc) (hin : ∀ w ∈ u_ws vc.1 vc.2.1 vc.2.2, w ∈ lw_gd) {ty0 : Nat → FieldType} (hty : ∀ k, k < vc.2.2 → parseFieldDescriptor (vc.2.1 k).2.2.1 = some (ty0 k)) (hnm : ∀ a, a < vc.2.2 → ∀ b, b < vc.2.2 → a ≠ b → (vc.2.1 a).2.1 ≠ (vc.2.1 b).2.1) (k : Nat) (hk : k < vc.2.2) {idx : Nat} {v : Value} {ty : FieldType} (hl : Cond.fieldLink R0 idx vc.1 (vc.2.1 k).2.1 (vc.2.1 k).2.2.1 ∈ lw_gd) (hR : (vc.2.1 k).1 = vc.1) (hfin : (vc.2.1 k).2.2.2 = true) (hname : meth.name = "<init>") (hown2 : (vc.2.1 k).1 = R0) (hd : parseFieldDescriptor (vc.2.1 k).2.2.1 = some ty) (hn : narrow ty v = v) (hf : fits ty v = true) (hlen : k < fs.length)
    (hset : Ws.flatten.set q0 (a, .inr (ci, fs.set k v)) = Ws'.flatten) (hdg : decode cc pc = .ok (.putfield idx, 3))
    (kk : ∀ (H1 : Heap) (locs1 : List Loc), WdC D A s Ws' H1 locs1 → W p l e R s m args below meth c H1 locs1 cells slots Q (F0 m (pc + 3) ls rest)) : W p l e R s m args below meth c H locs cells slots Q (F0 m pc ls (v :: .ref a :: rest)) := by
  obtain ⟨⟨hx, hb, hml, hrt, hown, hT, hlk⟩, hK, hA, hEX⟩ := C
  refine va_putF (D := D) (ci := ci) (C := vc.1) (T := vc.2.1) (N := vc.2.2) hx hb hT hin ty0 hty hnm hown hK hW.1 hW.2.1 hW.2.2 q0 he hc k hk (hT _ hl) (fun x h9 => hR ▸ h9) hfin hname hown2 hd hn hf hlen hdg (fun H1 locs1 hP hD hS => ?_)
  rw [hset] at hP hD
  exact kk H1 locs1 ⟨hP, hD, hS⟩
theorem x_newC (C : CxC R0 p s m args meth c cc nL rt D dA z A) (hW : WdC D A s Ws H locs) {ci N : Nat} {vc : vw_C} {fs : List Value} (hc : classes[ci]? = some vc) (hN : vc.2.2 = N) (hin : ∀ w ∈ u_ws vc.1 vc.2.1 vc.2.2, w ∈ lw_gd) {ty0 : Nat → FieldType} (hty : ∀ k, k < vc.2.2 → parseFieldDescriptor (vc.2.1 k).2.2.1 = some (ty0 k)) {idx : Nat} (hl : Cond.classLink R0 idx vc.1 ∈ lw_gd) (hi : Cond.instantiable vc.1 vc.2.2 ∈ lw_gd) (h3 : Cond.initialized vc.1 ∈ lw_gd) (hfs : ∀ j, j < vc.2.2 → defaultValue (ty0 j) = vp_V fs j) (hcells : cells + 1 ≤ R.cells) (hslots : slots + N ≤ R.slots) (hdg : decode cc pc = .ok (.new idx, 3))
    (kk : ∀ (q : Nat) (H1 : Heap), WdC D A s (Ws ++ [[(q, .inr (ci, fs))]]) H1 locs → W p l e R s m args below meth c H1 locs (cells + 1) (slots + N) Q (F0 m (pc + 3) ls (.ref q :: rest))) : W p l e R s m args below meth c H locs cells slots Q (F0 m pc ls rest) := by
  subst hN
  obtain ⟨⟨hx, hb, hml, hrt, hown, hT, hlk⟩, hK, hA, hEX⟩ := C
  refine va_new (D := D) (ci := ci) (C := vc.1) (T := vc.2.1) (N := vc.2.2) (ws := Ws.flatten) hx hb hT hin ty0 hty hown (hT _ hl) (hT _ hi) (hT _ h3) hK hW.1 hW.2.1 hW.2.2 hA hc hfs hcells hslots hdg (fun q H1 hP hD hS => ?_)
  refine kk q H1 ⟨?_, ?_, hS⟩
  · rw [List.flatten_append]; exact hP
  · rw [List.flatten_append]; exact hD
theorem x_objI (C : CxC R0 p s m args meth c cc nL rt D dA z A) {idx a : Nat} (h1 : Cond.methodLink R0 idx Lib.objectInit ∈ lw_gd) (h2 : Cond.instanceMethod Lib.objectInit ∈ lw_gd) (h3 : Cond.code Lib.objectInit ⟨#[0xb1]⟩ 1 none ∈ lw_gd) (hsz : ls.size = nL) (hdg : decode cc pc = .ok (.invokespecial idx, 3)) (hf : 1 ≤ R.frames) (hlo : (rest.map fun v => v.category).sum + 12 ≤ R.locals)
    (kk : W p l e R s m args below meth c H locs cells slots Q (F0 m (pc + 3) ls rest)) : W p l e R s m args below meth c H locs cells slots Q (F0 m pc ls (.ref a :: rest)) := by
  obtain ⟨⟨hx, hb, hml, hrt, hown, hT, hlk⟩, hK, hA, hEX⟩ := C
  exact W.objInit hx hb hown (hT _ h1) (hT _ h2) (hT _ h3) (g := F0 m pc ls (.ref a :: rest)) rfl (hsz.trans hml.symm) rfl hdg hf (by show 2 * 0 + _ + 12 ≤ _; omega) kk
/-- a constructor of a nest mate -/
theorem x_callN {Wc Wr : List va_W} {Po : List va_W → Option Value → Prop} {f lo dc ds : Nat} {st0 : List Value} {cc' : ByteArray} {nL' idx n n' : Nat} {y : MethodName} {As : List Value} {b : Nat} {host : String} (C : CxC R0 p s m args meth c cc nL rt D dA z A) (hW : WdC D A s Ws H locs) (hM : KC l D dA z y cc' nL' none f lo dc ds Wc (.ref b :: As) Po)
    (ps : List Nat) (hn' : Ws.length = n') (hps : ps.Perm (List.range n')) (he : ps.filterMap (fun i => Ws[i]?) = Wc ++ Wr)
    (h0 : Cond.code y cc' nL' none ∈ lw_gd) (h1 : Cond.methodLinkNest R0 idx y host ∈ ex_L) (h2 : Cond.instanceMethod y ∈ lw_gd) (h3 : Cond.initialized y.cls ∈ lw_gd) (hyn : y.name = "<init>") (hd : y.cls ≠ "java/lang/invoke/MethodHandle" ∧ y.cls ≠ "java/lang/invoke/VarHandle" ∧ (parseMethodDescriptor y.desc).map (fun d => d.parameters.length) = some n)
    (hR : f + 1 ≤ R.frames ∧ 8 + (nL' + 11) + lo ≤ R.locals) (hcs : cells + dc ≤ R.cells ∧ slots + ds ≤ R.slots) (hn : As.length = n) (hsz : ls.size = nL) (hst : st0 = As.reverse ++ .ref b :: rest) (hc : (rest.map fun v => v.category).sum ≤ 8) (hdg : decode cc pc = .ok (.invokespecial idx, 3))
    (kk : ∀ (Wc' : List va_W) (ov : Option Value) (H1 : Heap) (locs1 : List Loc), Po Wc' ov → (∀ Ws' : List va_W, Ws'.length = n' → ps.filterMap (fun i => Ws'[i]?) = Wc' ++ Wr → WdC D A s Ws' H1 locs1) → W p l e R s m args below meth c H1 locs1 (cells + dc) (slots + ds) Q (F0 m (pc + 3) ls (ov.toList ++ rest))) : W p l e R s m args below meth c H locs cells slots Q (F0 m pc ls st0) := by
  have C' := C
  obtain ⟨⟨hx, hb, hml, hrt, hown, hT, hlk⟩, hK, hA, hEX⟩ := C'
  have hrun := va_runIN (l := l) (e := e) (R := R) (below := below) (meth := meth) (H := H) (locs := locs) (cells := cells) (slots := slots) (g := F0 m pc ls st0) (rest := rest) (As := As) (b := b) ⟨hx, hb, hml, hown, hT⟩ (hM H.size) ⟨va_cnB n hT (lw_GI h0) rfl rfl rfl (hEX.w _ h1) (hT _ h3) hd hR, hyn, hT _ h2⟩ ⟨pc_blindS, fun U hU hw => ⟨rfl, by rw [hU], x_preC C hW hn' hps he U hU hw⟩⟩ rfl hn hsz hst (lv_room hc) hdg hcs
  exact x_joinC (rm := rmC f lo dc ds) C hW ps n' hn' hps he (fun st oc t h => h) (fun q h => h) hrun kk
/-- a constructor -/
theorem x_callI {Wc Wr : List va_W} {Po : List va_W → Option Value → Prop} {f lo dc ds : Nat} {st0 : List Value} {cc' : ByteArray} {nL' idx n n' : Nat} {y : MethodName} {As : List Value} {b : Nat} (C : CxC R0 p s m args meth c cc nL rt D dA z A) (hW : WdC D A s Ws H locs) (hM : KC l D dA z y cc' nL' none f lo dc ds Wc (.ref b :: As) Po)
    (ps : List Nat) (hn' : Ws.length = n') (hps : ps.Perm (List.range n')) (he : ps.filterMap (fun i => Ws[i]?) = Wc ++ Wr)
    (h0 : Cond.code y cc' nL' none ∈ lw_gd) (h1 : Cond.methodLink R0 idx y ∈ lw_gd) (h2 : Cond.instanceMethod y ∈ lw_gd) (h3 : Cond.initialized y.cls ∈ lw_gd) (hyn : y.name = "<init>") (hd : y.cls ≠ "java/lang/invoke/MethodHandle" ∧ y.cls ≠ "java/lang/invoke/VarHandle" ∧ (parseMethodDescriptor y.desc).map (fun d => d.parameters.length) = some n)
    (hR : f + 1 ≤ R.frames ∧ 8 + (nL' + 11) + lo ≤ R.locals) (hcs : cells + dc ≤ R.cells ∧ slots + ds ≤ R.slots) (hn : As.length = n) (hsz : ls.size = nL) (hst : st0 = As.reverse ++ .ref b :: rest) (hc : (rest.map fun v => v.category).sum ≤ 8) (hdg : decode cc pc = .ok (.invokespecial idx, 3))
    (kk : ∀ (Wc' : List va_W) (ov : Option Value) (H1 : Heap) (locs1 : List Loc), Po Wc' ov → (∀ Ws' : List va_W, Ws'.length = n' → ps.filterMap (fun i => Ws'[i]?) = Wc' ++ Wr → WdC D A s Ws' H1 locs1) → W p l e R s m args below meth c H1 locs1 (cells + dc) (slots + ds) Q (F0 m (pc + 3) ls (ov.toList ++ rest))) : W p l e R s m args below meth c H locs cells slots Q (F0 m pc ls st0) := by
  have C' := C
  obtain ⟨⟨hx, hb, hml, hrt, hown, hT, hlk⟩, hK, hA, hEX⟩ := C'
  have hrun := va_runI (l := l) (e := e) (R := R) (below := below) (meth := meth) (H := H) (locs := locs) (cells := cells) (slots := slots) (g := F0 m pc ls st0) (rest := rest) (As := As) (b := b) ⟨hx, hb, hml, hown, hT⟩ (hM H.size) ⟨callB_of n hT (lw_GI h0) rfl rfl rfl (hT _ h3) (hT _ h1) hd hR, hyn, hT _ h2⟩ ⟨pc_blindS, fun U hU hw => ⟨rfl, by rw [hU], x_preC C hW hn' hps he U hU hw⟩⟩ rfl hn hsz hst (lv_room hc) hdg hcs
  exact x_joinC (rm := rmC f lo dc ds) C hW ps n' hn' hps he (fun st oc t h => h) (fun q h => h) hrun kk
/-- a method that only reads, of an object that is no cell of the world: a constant -/
theorem x_callK {Wc Wr : List va_W} {f lo : Nat} {st0 : List Value} {cc' : ByteArray} {nL' idx n n' b : Nat} {rt' : Option FieldType} {y : MethodName} {As : List Value} {ov : Option Value} {CC : String} (C : CxC R0 p s m args meth c cc nL rt D dA z A) (hW : WdC D A s Ws H locs) (hM : KQ l D dA z y cc' nL' rt' f lo Wc (.ref b :: As) ov)
    (ps : List Nat) (hn' : Ws.length = n') (hps : ps.Perm (List.range n')) (he : ps.filterMap (fun i => Ws[i]?) = Wc ++ Wr) (hrc : ∃ cell : Cell, H[b]? = some cell ∧ cell.vm.isStatics = false ∧ s.vm.findClass CC = some cell.cls)
    (hG : GoodIn lw_gd (wsV R0 idx CC y (.code y cc' nL' rt' :: lw_gd))) (hd : y.cls = CC ∧ y.cls ≠ "java/lang/invoke/MethodHandle" ∧ y.cls ≠ "java/lang/invoke/VarHandle" ∧ (parseMethodDescriptor y.desc).map (fun d => d.parameters.length) = some n)
    (hR : f + 1 ≤ R.frames ∧ 8 + (nL' + 11) + lo ≤ R.locals) (hcs : cells ≤ R.cells ∧ slots ≤ R.slots) (hn : As.length = n) (hsz : ls.size = nL) (hst : st0 = As.reverse ++ .ref b :: rest) (hc : (rest.map fun v => v.category).sum ≤ 8) (hdg : decode cc pc = .ok (.invokevirtual idx, 3))
    (kk : W p l e R s m args below meth c H locs cells slots Q (F0 m (pc + 3) ls (ov.toList ++ rest))) : W p l e R s m args below meth c H locs cells slots Q (F0 m pc ls st0) := by
  have C' := C
  obtain ⟨⟨hx, hb, hml, hrt, hown, hT, hlk⟩, hK, hA, hEX⟩ := C'
  have hrun := va_runV (l := l) (e := e) (R := R) (below := below) (meth := meth) (H := H) (locs := locs) (cells := cells) (slots := slots) (g := F0 m pc ls st0) (rest := rest) (As := As) ⟨hx, hb, hml, hown, hT⟩ hM (cwV n hT hG rfl rfl rfl hd hR) ⟨pc_blind, hrc, fun U hU hw => ⟨rfl, x_preC C hW hn' hps he U hU hw⟩⟩ rfl hn hsz hst (lv_room hc) hdg hcs
  intro T hT' X
  obtain ⟨v, st₀, t, T', L, h0, X', hL, e1, e2, ⟨hq, hk⟩, st⟩ := hrun T hT' X
  cases hq
  have hLn : L = [] := by
    cases L with
    | nil => rfl
    | cons a L => exact absurd (hL a List.mem_cons_self) (fun z => z)
  subst hLn
  rw [List.append_nil] at X'
  have hh : T'.heap = H := e1.trans (hk.trans h0)
  obtain ⟨t2, a1, b1⟩ := kk T' hh X'
  exact ⟨t2, st t2 a1, b1⟩
/-- a static method that only reads -/
theorem x_callQS {Wc Wr : List va_W} {f lo : Nat} {st0 : List Value} {cc' : ByteArray} {nL' idx n n' : Nat} {rt' : Option FieldType} {y : MethodName} {As : List Value} {ov : Option Value} (C : CxC R0 p s m args meth c cc nL rt D dA z A) (hW : WdC D A s Ws H locs) (hM : KQ l D dA z y cc' nL' rt' f lo Wc As ov)
    (ps : List Nat) (hn' : Ws.length = n') (hps : ps.Perm (List.range n')) (he : ps.filterMap (fun i => Ws[i]?) = Wc ++ Wr)
    (h0 : Cond.code y cc' nL' rt' ∈ lw_gd) (h1 : Cond.methodLink R0 idx y ∈ lw_gd) (h2 : Cond.static y ∈ lw_gd) (h3 : Cond.initialized y.cls ∈ lw_gd) (hd : y.cls ≠ "java/lang/invoke/MethodHandle" ∧ y.cls ≠ "java/lang/invoke/VarHandle" ∧ (parseMethodDescriptor y.desc).map (fun d => d.parameters.length) = some n)
    (hR : f + 1 ≤ R.frames ∧ 8 + (nL' + 11) + lo ≤ R.locals) (hcs : cells ≤ R.cells ∧ slots ≤ R.slots) (hn : As.length = n) (hsz : ls.size = nL) (hst : st0 = As.reverse ++ rest) (hc : (rest.map fun v => v.category).sum ≤ 8) (hdg : decode cc pc = .ok (.invokestatic idx, 3))
    (kk : W p l e R s m args below meth c H locs cells slots Q (F0 m (pc + 3) ls (ov.toList ++ rest))) : W p l e R s m args below meth c H locs cells slots Q (F0 m pc ls st0) := by
  have C' := C
  obtain ⟨⟨hx, hb, hml, hrt, hown, hT, hlk⟩, hK, hA, hEX⟩ := C'
  have hrun := va_runS (l := l) (e := e) (R := R) (below := below) (meth := meth) (H := H) (locs := locs) (cells := cells) (slots := slots) (g := F0 m pc ls st0) (rest := rest) (As := As) ⟨hx, hb, hml, hown, hT⟩ hM ⟨callB_of n hT (lw_GI h0) rfl rfl rfl (hT _ h3) (hT _ h1) hd hR, hT _ h2⟩ ⟨pc_blind, fun U hU hw => ⟨rfl, x_preC C hW hn' hps he U hU hw⟩⟩ rfl hn hsz hst (lv_room hc) hdg hcs
  intro T hT' X
  obtain ⟨v, st₀, t, T', L, h0, X', hL, e1, e2, ⟨hq, hk⟩, st⟩ := hrun T hT' X
  cases hq
  have hLn : L = [] := by
    cases L with
    | nil => rfl
    | cons a L => exact absurd (hL a List.mem_cons_self) (fun z => z)
  subst hLn
  rw [List.append_nil] at X'
  have hh : T'.heap = H := e1.trans (hk.trans h0)
  obtain ⟨t2, a1, b1⟩ := kk T' hh X'
  exact ⟨t2, st t2 a1, b1⟩
theorem x_ldIC (C : CxC R0 p s m args meth c cc nL rt D dA z A) (hW : WdC D A s Ws H locs) (q0 : Nat) {a n : Nat} {f : Nat → Int32} {i : Int32} (ha : Ws.flatten[q0]? = some (a, .inl (dA 2, n, .inl f))) (hin : inB i n = true) (hdg : decode cc pc = .ok (.iaload, 1))
    (kk : W p l e R s m args below meth c H locs cells slots Q (F0 m (pc + 1) ls (.int (f i.toNatClampNeg) :: rest))) : W p l e R s m args below meth c H locs cells slots Q (F0 m pc ls (.int i :: .ref a :: rest)) :=
  va_iald C.1.1 C.1.2.1 C.2.1 hW.1 q0 2 ha rfl (inB_in hin) hdg kk
theorem x_stIC (C : CxC R0 p s m args meth c cc nL rt D dA z A) (hW : WdC D A s Ws H locs) (q0 : Nat) {a n : Nat} {f : Nat → Int32} {i x : Int32} (ha : Ws.flatten[q0]? = some (a, .inl (dA 2, n, .inl f))) (hin : inB i n = true) (hset : Ws.flatten.set q0 (a, .inl (dA 2, n, .inl (upd f i.toNatClampNeg x))) = Ws'.flatten) (hdg : decode cc pc = .ok (.iastore, 1))
    (kk : ∀ (H1 : Heap) (locs1 : List Loc), WdC D A s Ws' H1 locs1 → W p l e R s m args below meth c H1 locs1 cells slots Q (F0 m (pc + 1) ls rest)) : W p l e R s m args below meth c H locs cells slots Q (F0 m pc ls (.int x :: .int i :: .ref a :: rest)) :=
  va_iast C.1.1 C.1.2.1 C.2.1 hW.1 hW.2.1 hW.2.2 q0 2 ha rfl (inB_in hin) hdg (fun H1 locs1 hP hD hS => kk H1 locs1 ⟨hset ▸ hP, hset ▸ hD, hS⟩)
theorem x_alenC (C : CxC R0 p s m args meth c cc nL rt D dA z A) (hW : WdC D A s Ws H locs) (q0 : Nat) {a n : Nat} {f : Nat → Int32} (ha : Ws.flatten[q0]? = some (a, .inl (dA 2, n, .inl f))) (hdg : decode cc pc = .ok (.arraylength, 1))
    (kk : W p l e R s m args below meth c H locs cells slots Q (F0 m (pc + 1) ls (.int (nI n) :: rest))) : W p l e R s m args below meth c H locs cells slots Q (F0 m pc ls (.ref a :: rest)) :=
  va_alen C.1.1 C.1.2.1 C.2.1 hW.1 q0 2 (x := (n, .inl f)) ha (ty := .int) rfl rfl hdg kk
def jmin (x y : Int32) : Int32 := if y < x then y else x
def jminl (x y : Int64) : Int64 := if y < x then y else x
def jmax (x y : Int32) : Int32 := if x < y then y else x
theorem x_retSn {v : Int32} {ty : FieldType} (C : CxS R0 p s m args meth c cc nL rt) (hr : rt = some ty) (hn : narrow ty (.int v) = .int v) (hdg : decode cc pc = .ok (.ireturn, 1)) :
    W p l e R s m args below meth c s.heap [] 0 0 (MQ below (QS (some (.int v))) args s 0 0 (fun _ => False)) (F0 m pc ls [.int v]) := by
  obtain ⟨hx, hb, hml, hrt, hown, hT, hlk⟩ := C
  exact W.zret hx hb (hrt.trans hr) hn (fun t ht hW => ⟨rfl, ht⟩) (fun q h => by cases h) hdg hlk
theorem x_retSv (C : CxS R0 p s m args meth c cc nL rt) (hr : rt = none) (hdg : decode cc pc = .ok (.return_, 1)) :
    W p l e R s m args below meth c s.heap [] 0 0 (MQ below (QS none) args s 0 0 (fun _ => False)) (F0 m pc ls []) := by
  obtain ⟨hx, hb, hml, hrt, hown, hT, hlk⟩ := C
  exact W.vret hx hb (hrt.trans hr) (fun t ht hW => ⟨rfl, ht⟩) (fun q h => by cases h) hdg hlk
end
