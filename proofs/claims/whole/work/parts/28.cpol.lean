/-! ===== the list of Items: state I: number 0 of its numbers is modCount; arrays: item k's fields (0: the one that stands for none); lengths: 0 how many in the list, 1 the list's own array ===== -/
/-- where item k lies: 0 is the one that stands for none -/
def pa (o i : Nat → Nat) : Nat → Nat
  | 0 => o 68
  | k + 1 => i (k + 1)
def lref (o b : Nat → Nat) (σ : CS) : Nat := if σ.2.2 1 = 0 then o 1000 else b 66
def lfun (i : Nat → Nat) (n : Nat) : Nat → Option Nat := fun k => if k < n then some (i (k + 1)) else none
def larr (dA : Nat → ClassId) (b i : Nat → Nat) (σ : CS) : va_W := if σ.2.2 1 = 0 then [] else [(b 66, .inl (dA 4, σ.2.2 1, .inr (.inr (.inr (.inr (lfun i (σ.2.2 0)))))))]
abbrev itf (f : Nat → Int32) : List Value := [.int (f 0), .int (f 1), .int (f 2), .int (f 3), .int (f 4), .int (f 5), .int (f 6), .int (f 7), .int (f 8)]
def pool (o i : Nat → Nat) (σ : CS) : va_W := (List.range (σ.2.2 0 + 1)).map (fun k => (pa o i k, .inr (4, itf (σ.2.1 k))))
abbrev c_Pol (dA : Nat → ClassId) (o b i : Nat → Nat) (σ : CS) : List va_W := [[(o 66, .inr (11, [.ref (lref o b σ), .int (nI (σ.2.2 0)), .int (σ.1 0)]))], larr dA b i σ, pool o i σ]
theorem pool_at {o i : Nat → Nat} {σ : CS} {k : Nat} (h : k < σ.2.2 0 + 1) : (pool o i σ)[k]? = some (pa o i k, .inr (4, itf (σ.2.1 k))) := by
  simp [pool, List.getElem?_map, List.getElem?_range h]
theorem pool_set {o i : Nat → Nat} {σ : CS} {k f : Nat} {v : Int32} : (pool o i σ).set k (pa o i k, .inr (4, itf (upd (σ.2.1 k) f v))) = pool o i (cA σ k f v) := by
  apply List.ext_getElem?
  intro j
  rw [List.getElem?_set]
  by_cases hj : k = j
  · subst hj
    by_cases hk : k < σ.2.2 0 + 1
    · rw [if_pos rfl, if_pos (by simp [pool]; exact hk), pool_at (σ := cA σ k f v) hk]
      simp [cA]
    · rw [if_pos rfl, if_neg (by simp [pool]; omega)]
      symm
      rw [List.getElem?_eq_none_iff]
      simp [pool, cA]
      omega
  · rw [if_neg hj]
    by_cases hk : j < σ.2.2 0 + 1
    · rw [pool_at hk, pool_at (σ := cA σ k f v) hk]
      simp [cA, Ne.symm hj]
    · rw [List.getElem?_eq_none_iff.mpr (by simp [pool]; omega), List.getElem?_eq_none_iff.mpr (by simp [pool, cA]; omega)]
theorem fl_get : ∀ (Ws : List va_W) (j : Nat) (w : va_W), Ws[j]? = some w → ∀ k : Nat, k < w.length → Ws.flatten[(Ws.take j).flatten.length + k]? = w[k]?
  | [], j, w, h, k, hk => by simp at h
  | a :: Ws, 0, w, h, k, hk => by
    simp at h
    subst h
    simp [List.getElem?_append_left hk]
  | a :: Ws, j + 1, w, h, k, hk => by
    have h1 : Ws[j]? = some w := by simpa using h
    rw [List.take_succ_cons, List.flatten_cons, List.flatten_cons, List.length_append, Nat.add_assoc, List.getElem?_append_right (Nat.le_add_right _ _), Nat.add_sub_cancel_left]
    exact fl_get Ws j w h1 k hk
theorem fl_set : ∀ (Ws : List va_W) (j : Nat) (w : va_W), Ws[j]? = some w → ∀ (k : Nat) (x : Nat × va_E), k < w.length → Ws.flatten.set ((Ws.take j).flatten.length + k) x = (Ws.set j (w.set k x)).flatten
  | [], j, w, h, k, x, hk => by simp at h
  | a :: Ws, 0, w, h, k, x, hk => by
    simp at h
    subst h
    simp [List.set_append, hk]
  | a :: Ws, j + 1, w, h, k, x, hk => by
    have h1 : Ws[j]? = some w := by simpa using h
    rw [List.take_succ_cons, List.flatten_cons, List.flatten_cons, List.length_append, Nat.add_assoc, List.set_append_right _ _ (Nat.le_add_right _ _), Nat.add_sub_cancel_left, fl_set Ws j w h1 k x hk, List.set_cons_succ, List.flatten_cons]
section
variable {p : Program} {l : Launch} {e : Env} {R : Room} {s : State} {m : MethodId} {args : Array Value} {below : List Frame} {meth : Method} {c : Code} {H : Heap} {locs : List Loc} {cells slots : Nat} {Q : State → Prop} {pc : Nat} {ls : Array Slot} {rest : List Value} {cc : ByteArray} {nL : Nat} {rt : Option FieldType} {D : va_G} {dA : Nat → ClassId} {z : Nat → Nat} {A : Nat → Prop} {R0 : String} {Ws Ws' : List va_W} {o i : Nat → Nat} {σ : CS}
theorem x_getI (C : CxC R0 p s m args meth c cc nL rt D dA z A) (hW : WdC D A s Ws H locs) (j : Nat) (hj : Ws[j]? = some (pool o i σ)) {k : Nat} (hk : k < σ.2.2 0 + 1) (fl : Nat) (hf : fl < 9) {idx : Nat} {v : Value} (hl : Cond.fieldLink R0 idx R_Itm (F_Itm fl).2.1 (F_Itm fl).2.2.1 ∈ lw_gd) (hR : (F_Itm fl).1 = R_Itm) (hv : (itf (σ.2.1 k))[fl]? = some v) (hdg : decode cc pc = .ok (.getfield idx, 3))
    (kk : W p l e R s m args below meth c H locs cells slots Q (F0 m (pc + 3) ls (v :: rest))) : W p l e R s m args below meth c H locs cells slots Q (F0 m pc ls (.ref (pa o i k) :: rest)) :=
  x_getC C hW ((Ws.take j).flatten.length + k) ((fl_get Ws j _ hj k (by simp [pool]; exact hk)).trans (pool_at hk)) (ci := 4) rfl i_Itm fl hf hl hR hv hdg kk
theorem x_putI (C : CxC R0 p s m args meth c cc nL rt D dA z A) (hW : WdC D A s Ws H locs) (j : Nat) (hj : Ws[j]? = some (pool o i σ)) {k : Nat} (hk : k < σ.2.2 0 + 1) (fl : Nat) (hf : fl < 9) {idx : Nat} {v : Int32} {ty : FieldType} (hl : Cond.fieldLink R0 idx R_Itm (F_Itm fl).2.1 (F_Itm fl).2.2.1 ∈ lw_gd) (hR : (F_Itm fl).1 = R_Itm) (hfin : (F_Itm fl).2.2.2 = false) (hd : parseFieldDescriptor (F_Itm fl).2.2.1 = some ty) (hn : narrow ty (.int v) = .int v) (hft : fits ty (.int v) = true) (hi : (itf (σ.2.1 k)).set fl (.int v) = itf (upd (σ.2.1 k) fl v)) (hset : Ws.set j (pool o i (cA σ k fl v)) = Ws') (hdg : decode cc pc = .ok (.putfield idx, 3))
    (kk : ∀ (H1 : Heap) (locs1 : List Loc), WdC D A s Ws' H1 locs1 → W p l e R s m args below meth c H1 locs1 cells slots Q (F0 m (pc + 3) ls rest)) : W p l e R s m args below meth c H locs cells slots Q (F0 m pc ls (.int v :: .ref (pa o i k) :: rest)) := by
  have hlen : k < (pool o i σ).length := by simp [pool]; exact hk
  refine x_putC C hW ((Ws.take j).flatten.length + k) ((fl_get Ws j _ hj k hlen).trans (pool_at hk)) (ci := 4) rfl i_Itm tok_Itm n_Itm fl hf hl hR hfin hd hn hft hf ?_ hdg kk
  rw [hi, fl_set Ws j _ hj k _ hlen, pool_set, hset]
end
