/-! ===== the names that stay: entered one by one ===== -/
abbrev np (σ : CS) (x y : Nat) : Nat × Nat := (2 * capN σ + x, capN σ + y)
def Nm1 (a b : CS) : Prop := ∀ j, 1 ≤ j → j < 100 → b.1 j = a.1 j
theorem Nm1.rf (a : CS) : Nm1 a a := fun _ _ _ => rfl
theorem Nm1.tr {a b c : CS} (h1 : Nm1 a b) (h2 : Nm1 b c) : Nm1 a c := fun j x y => (h2 j x y).trans (h1 j x y)
section
variable {N : Nat} {ns : List (List Int32)} {p so va op re od : List Int32} {σ : CS} {x y : Nat}
theorem RC_nput (h : NamL σ ns p so va op re od) (c : Int32) (hl : 2 * (ns.flatten ++ p).length + 64 ≤ 140000) : RC (np σ x y) (C_Nam_put c σ) (fun _ u c' => c' = np u x y ∧ NamL u ns (p ++ [c]) so va op re od ∧ Nm1 σ u) := by
  obtain ⟨σ', dc, ds, e, h1, h2, h3⟩ := C_Nam_put_eq h c hl
  exact ⟨0, σ', dc, ds, _, e, ⟨by have := h2.1; simp only []; omega, by have := h2.2; simp only []; omega⟩, rfl, h1, h3⟩
theorem RC_nfin (h : NamL σ ns p so va op re od) (hf : NFits ns p) (hN : p.length < N) (hN2 : ns.length < N) (hp : p ∉ ns) : RC (np σ x y) (C_Nam_finish N σ) (fun v u c' => v = nI ns.length ∧ c' = np u x y ∧ NamL u (ns ++ [p]) [] (so ++ [0]) (va ++ [0]) op re od ∧ Nm1 σ u) := by
  obtain ⟨i, σ', dc, ds, e, h2, h3, h4⟩ := C_Nam_finish_eq h hf hN hN2
  rcases h4 with ⟨q1, q2, -⟩ | ⟨q1, q2, q3⟩
  · exfalso
    apply hp
    rw [← q2, gD_e q1]
    exact List.getElem_mem _
  · exact ⟨nI i, σ', dc, ds, _, e, ⟨by have := h2.1; simp only []; omega, by have := h2.2; simp only []; omega⟩, by rw [q2], rfl, q3, h3⟩
theorem capN_rs {u : CS} {r : Nat} (hr : r < 9) : capN (rs σ r u) + σ.2.2 r = capN σ + u.2.2 0 := by
  unfold capN rs
  simp only []
  rcases (show r = 0 ∨ r = 1 ∨ r = 2 ∨ r = 3 ∨ r = 4 ∨ r = 5 ∨ r = 6 ∨ r = 7 ∨ r = 8 by omega) with z | z | z | z | z | z | z | z | z <;> subst z <;> simp <;> omega
/-- a value for the newest name in one of the three tables -/
theorem RC_ntab {r : Nat} (hr : r = 2 ∨ r = 3 ∨ r = 4) {l : List Int32} (h : RowL (rg σ r) l) (hl : 2 * l.length + 64 ≤ 140000) (v : Int32) {α τ : Type} {Q : α → τ → Nat × Nat → Prop} {k : CS → Option ((α × τ) × (Nat × Nat))} (hk : ∀ σ', RowL (rg σ' r) (l ++ [v]) → (∀ q, q ≠ r → rg σ' q = rg σ q) → (∀ j, j < 100 → σ'.1 j = σ.1 j) → σ'.2.1 20 = σ.2.1 20 → σ'.2.2 20 = σ.2.2 20 → RC (np σ' x y) (k σ') Q) : RC (np σ x y) (ct (C_Row_add v (rg σ r)) (fun _ u => bnd (rs σ r u) k)) Q := by
  have hcap : σ.2.2 r ≤ capN σ := by
    unfold capN
    rcases hr with z | z | z <;> subst z <;> omega
  have e : np σ x y = (2 * (rg σ r).2.2 0 + (2 * (capN σ - σ.2.2 r) + x), (rg σ r).2.2 0 + (capN σ - σ.2.2 r + y)) := Prod.ext (by show _ = 2 * σ.2.2 r + _; simp only []; omega) (by show _ = σ.2.2 r + _; simp only []; omega)
  rw [e]
  refine RC_then (RC_add h hl v _ _) (fun _ u c hu => ?_)
  obtain ⟨u1, rfl⟩ := hu
  refine RC_bnd ?_
  have hc := capN_rs (σ := σ) (u := u) (r := r) (by omega)
  have e2 : (2 * u.2.2 0 + (2 * (capN σ - σ.2.2 r) + x), u.2.2 0 + (capN σ - σ.2.2 r + y)) = np (rs σ r u) x y := Prod.ext (by simp only []; omega) (by simp only []; omega)
  rw [e2]
  have h20 : r ≠ 20 := by omega
  refine hk _ (RowL_rs u1) (fun q hq => rg_rs hq) (fun j hj => rs_num hj) ?_ ?_
  · unfold rs; simp only []; rw [if_neg (fun z => h20 z.symm)]
  · unfold rs; simp only []; rw [if_neg (fun z => h20 z.symm)]
end
