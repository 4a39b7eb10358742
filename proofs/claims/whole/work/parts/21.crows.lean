/-! ===== rows over components; states of classes ===== -/
abbrev CS : Type := (Nat → Int32) × (Nat → Nat → Int32) × (Nat → Nat)
def cF (σ : CS) (j : Nat) (v : Int32) : CS := (upd σ.1 j v, σ.2.1, σ.2.2)
def cA (σ : CS) (k i : Nat) (v : Int32) : CS := (σ.1, (fun q => if q = k then upd (σ.2.1 k) i v else σ.2.1 q), σ.2.2)
def cB (σ : CS) (k g : Nat) (f : Nat → Int32) : CS := (σ.1, (fun q => if q = k then f else σ.2.1 q), fun q => if q = k then g else σ.2.2 q)
def rg (σ : CS) (r : Nat) : CS := (fun _ => σ.1 (100 + r), fun _ => σ.2.1 r, fun _ => σ.2.2 r)
def rs (σ : CS) (r : Nat) (τ : CS) : CS := (upd σ.1 (100 + r) (τ.1 0), (fun q => if q = r then τ.2.1 0 else σ.2.1 q), fun q => if q = r then τ.2.2 0 else σ.2.2 q)
/-- one array of a state, alone -/
def ag (σ : CS) (r : Nat) : CS := (fun _ => 0, fun _ => σ.2.1 r, fun _ => σ.2.2 r)
def aset (σ : CS) (r : Nat) (τ : CS) : CS := (σ.1, (fun q => if q = r then τ.2.1 0 else σ.2.1 q), fun q => if q = r then τ.2.2 0 else σ.2.2 q)
def zz (o : Nat → Nat) : Nat → Nat := fun k => o (70 + k)
def uN (b : Nat → Nat) (k q : Nat) : Nat → Nat := fun j => if j = k then q else b j
def mxs (ks : List Nat) (b' b : Nat → Nat) : Nat → Nat := fun k => if ks.contains (k / 16) = true then b' k else b k
/-- a call that may make cells -/
def ct {α σ β : Type} (o : Option ((α × σ) × (Nat × Nat))) (k : α → σ → Option (β × (Nat × Nat))) : Option (β × (Nat × Nat)) := o.bind (fun q => (k q.1.1 q.1.2).map (fun z => (z.1, (q.2.1 + z.2.1, q.2.2 + z.2.2))))
theorem ct_some {α σ β : Type} {o : Option ((α × σ) × (Nat × Nat))} {k : α → σ → Option (β × (Nat × Nat))} {R : β} {C S : Nat} (h : ct o k = some (R, (C, S))) : ∃ r u d1 e1 d2 e2, o = some ((r, u), (d1, e1)) ∧ k r u = some (R, (d2, e2)) ∧ C = d1 + d2 ∧ S = e1 + e2 := by
  cases o with
  | none => cases h
  | some q =>
    cases hk : k q.1.1 q.1.2 with
    | none => simp [ct, hk] at h
    | some z =>
      simp [ct, hk] at h
      obtain ⟨h1, h2, h3⟩ := h
      exact ⟨q.1.1, q.1.2, q.2.1, q.2.2, z.2.1, z.2.2, rfl, by rw [hk, ← h1], h2.symm, h3.symm⟩
theorem sm_q {α β : Type} {a b : α} {u v : β} {c1 c2 d1 d2 : Nat} (h : some ((a, u), (c1, d1)) = some ((b, v), (c2, d2))) : b = a ∧ v = u ∧ c2 = c1 ∧ d2 = d1 := by
  cases h
  exact ⟨rfl, rfl, rfl, rfl⟩
theorem lv_tdef {x : Int32} {lo hi d : Int} {offs : Array Int} (n : Nat) (ks : List Int32) (h1 : ¬ x.toInt < lo) (h2 : ¬ hi < x.toInt) (hn : ∀ k ∈ ks, ¬ x = k) (hN : hi - lo < n) (hall : ∀ j : Fin n, (ks.any (fun k => k.toInt == lo + (j.val : Int))) = true ∨ offs[j.val]? = some d) : offs[(x.toInt - lo).toNat]? = some d := by
  have hj : (x.toInt - lo).toNat < n := by omega
  rcases hall ⟨_, hj⟩ with h | h
  · obtain ⟨k, hk, he⟩ := List.any_eq_true.mp h
    have he : k.toInt = lo + ((x.toInt - lo).toNat : Int) := eq_of_beq he
    exact absurd (Int32.toInt_inj.mp (by omega)) (hn k hk)
  · exact h
section
variable {p : Program} {l : Launch} {e : Env} {R : Room} {s : State} {m : MethodId} {args : Array Value} {below : List Frame} {meth : Method} {c : Code} {H : Heap} {locs : List Loc} {cells slots : Nat} {Q : State → Prop} {pc : Nat} {ls : Array Slot} {rest : List Value} {cc : ByteArray} {nL : Nat} {rt : Option FieldType} {D : va_G} {dA : Nat → ClassId} {z : Nat → Nat} {A : Nat → Prop} {R0 : String} {Ws Ws' : List va_W}
theorem x_getC (C : CxC R0 p s m args meth c cc nL rt D dA z A) (hW : WdC D A s Ws H locs) (q0 : Nat) {a ci : Nat} {vc : vw_C} {fs : List Value} (he : Ws.flatten[q0]? = some (a, .inr (ci, fs))) (hc : classes[ci]? = some vc) (hin : ∀ w ∈ u_ws vc.1 vc.2.1 vc.2.2, w ∈ lw_gd) (k : Nat) (hk : k < vc.2.2) {idx : Nat} {v : Value} (hl : Cond.fieldLink R0 idx vc.1 (vc.2.1 k).2.1 (vc.2.1 k).2.2.1 ∈ lw_gd) (hR : (vc.2.1 k).1 = vc.1) (hv : fs[k]? = some v) (hdg : decode cc pc = .ok (.getfield idx, 3))
    (kk : W p l e R s m args below meth c H locs cells slots Q (F0 m (pc + 3) ls (v :: rest))) : W p l e R s m args below meth c H locs cells slots Q (F0 m pc ls (.ref a :: rest)) := by
  obtain ⟨⟨hx, hb, hml, hrt, hown, hT, hlk⟩, hK, hA, hEX⟩ := C
  exact va_get (D := D) (ci := ci) (C := vc.1) (T := vc.2.1) (N := vc.2.2) hx hb hT hin hown hK hW.1 q0 he hc k hk (hT _ hl) (fun x h9 => hR ▸ h9) hv hdg kk
theorem x_putC (C : CxC R0 p s m args meth c cc nL rt D dA z A) (hW : WdC D A s Ws H locs) (q0 : Nat) {a ci : Nat} {vc : vw_C} {fs : List Value} (he : Ws.flatten[q0]? = some (a, .inr (ci, fs))) (hc : classes[ci]? = some vc) (hin : ∀ w ∈ u_ws vc.1 vc.2.1 vc.2.2, w ∈ lw_gd) {ty0 : Nat → FieldType} (hty : ∀ k, k < vc.2.2 → parseFieldDescriptor (vc.2.1 k).2.2.1 = some (ty0 k)) (hnm : ∀ a, a < vc.2.2 → ∀ b, b < vc.2.2 → a ≠ b → (vc.2.1 a).2.1 ≠ (vc.2.1 b).2.1) (k : Nat) (hk : k < vc.2.2) {idx : Nat} {v : Value} {ty : FieldType} (hl : Cond.fieldLink R0 idx vc.1 (vc.2.1 k).2.1 (vc.2.1 k).2.2.1 ∈ lw_gd) (hR : (vc.2.1 k).1 = vc.1) (hfin : (vc.2.1 k).2.2.2 = false) (hd : parseFieldDescriptor (vc.2.1 k).2.2.1 = some ty) (hn : narrow ty v = v) (hf : fits ty v = true) (hlen : k < fs.length)
    (hset : Ws.flatten.set q0 (a, .inr (ci, fs.set k v)) = Ws'.flatten) (hdg : decode cc pc = .ok (.putfield idx, 3))
    (kk : ∀ (H1 : Heap) (locs1 : List Loc), WdC D A s Ws' H1 locs1 → W p l e R s m args below meth c H1 locs1 cells slots Q (F0 m (pc + 3) ls rest)) : W p l e R s m args below meth c H locs cells slots Q (F0 m pc ls (v :: .ref a :: rest)) := by
  obtain ⟨⟨hx, hb, hml, hrt, hown, hT, hlk⟩, hK, hA, hEX⟩ := C
  refine va_put (D := D) (ci := ci) (C := vc.1) (T := vc.2.1) (N := vc.2.2) hx hb hT hin ty0 hty hnm hown hK hW.1 hW.2.1 hW.2.2 q0 he hc k hk (hT _ hl) (fun x h9 => hR ▸ h9) hfin hd hn hf hlen hdg (fun H1 locs1 hP hD hS => ?_)
  rw [hset] at hP hD
  exact kk H1 locs1 ⟨hP, hD, hS⟩
theorem x_ldIC (C : CxC R0 p s m args meth c cc nL rt D dA z A) (hW : WdC D A s Ws H locs) (q0 : Nat) {a n : Nat} {f : Nat → Int32} {i : Int32} (ha : Ws.flatten[q0]? = some (a, .inl (dA 2, n, .inl f))) (hin : inB i n = true) (hdg : decode cc pc = .ok (.iaload, 1))
    (kk : W p l e R s m args below meth c H locs cells slots Q (F0 m (pc + 1) ls (.int (f i.toNatClampNeg) :: rest))) : W p l e R s m args below meth c H locs cells slots Q (F0 m pc ls (.int i :: .ref a :: rest)) :=
  va_iald C.1.1 C.1.2.1 C.2.1 hW.1 q0 2 ha rfl (inB_in hin) hdg kk
theorem x_stIC (C : CxC R0 p s m args meth c cc nL rt D dA z A) (hW : WdC D A s Ws H locs) (q0 : Nat) {a n : Nat} {f : Nat → Int32} {i x : Int32} (ha : Ws.flatten[q0]? = some (a, .inl (dA 2, n, .inl f))) (hin : inB i n = true) (hset : Ws.flatten.set q0 (a, .inl (dA 2, n, .inl (upd f i.toNatClampNeg x))) = Ws'.flatten) (hdg : decode cc pc = .ok (.iastore, 1))
    (kk : ∀ (H1 : Heap) (locs1 : List Loc), WdC D A s Ws' H1 locs1 → W p l e R s m args below meth c H1 locs1 cells slots Q (F0 m (pc + 1) ls rest)) : W p l e R s m args below meth c H locs cells slots Q (F0 m pc ls (.int x :: .int i :: .ref a :: rest)) :=
  va_iast C.1.1 C.1.2.1 C.2.1 hW.1 hW.2.1 hW.2.2 q0 2 ha rfl (inB_in hin) hdg (fun H1 locs1 hP hD hS => kk H1 locs1 ⟨hset ▸ hP, hset ▸ hD, hS⟩)
theorem x_alenC (C : CxC R0 p s m args meth c cc nL rt D dA z A) (hW : WdC D A s Ws H locs) (q0 : Nat) {a n : Nat} {f : Nat → Int32} (ha : Ws.flatten[q0]? = some (a, .inl (dA 2, n, .inl f))) (hdg : decode cc pc = .ok (.arraylength, 1))
    (kk : W p l e R s m args below meth c H locs cells slots Q (F0 m (pc + 1) ls (.int (nI n) :: rest))) : W p l e R s m args below meth c H locs cells slots Q (F0 m pc ls (.ref a :: rest)) :=
  va_alen C.1.1 C.1.2.1 C.2.1 hW.1 q0 2 (x := (n, .inl f)) ha (ty := .int) rfl rfl hdg kk
def jmin (x y : Int32) : Int32 := if y < x then y else x
def jminl (x y : Int64) : Int64 := if y < x then y else x
def jmax (x y : Int32) : Int32 := if x < y then y else x
theorem x_retSv (C : CxS R0 p s m args meth c cc nL rt) (hr : rt = none) (hdg : decode cc pc = .ok (.return_, 1)) :
    W p l e R s m args below meth c s.heap [] 0 0 (MQ below (QS none) args s 0 0 (fun _ => False)) (F0 m pc ls []) := by
  obtain ⟨hx, hb, hml, hrt, hown, hT, hlk⟩ := C
  exact W.vret hx hb (hrt.trans hr) (fun t ht hW => ⟨rfl, ht⟩) (fun q h => by cases h) hdg hlk
end
