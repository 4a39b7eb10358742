/-! ===== the names that stay: the operations' loop ===== -/
section
variable {N : Nat} {σ : CS} {x y : Nat}
def EnS (L : List En) : Prop := (L.map (fun e => e.1)).flatten.length ≤ 20000 ∧ L.length ≤ 20000
theorem EnS.sm {L : List En} (h : EnS L) : Sml (L.map (fun e => e.1)) (L.map (fun e => e.2.1)) (L.map (fun e => e.2.2.1)) (L.map (fun e => e.2.2.2)) := ⟨h.1, by rw [List.length_map]; exact h.2, by rw [List.length_map]; exact h.2, by rw [List.length_map]; exact h.2, by rw [List.length_map]; exact h.2⟩
theorem EnS.pre {L M : List En} (h : EnS (L ++ M)) : EnS L := by
  obtain ⟨h1, h2⟩ := h
  rw [List.map_append, List.flatten_append, List.length_append] at h1
  rw [List.length_append] at h2
  exact ⟨by omega, by omega⟩
theorem var_E (hN : 100000 < N) {L : List En} (h : NmA σ L) (hs : EnS L) {j k2 : Nat} (hj : j < 128) (hk2 : k2 < 188) (hni : spB j ++ strB k2 ∉ L.map (fun e => e.1)) (x3 x4 : Int32) : RC (np σ x y) (C_Nam_enterVariant N j k2 x3 x4 σ) (fun _ u c => c = np u x y ∧ NmA u (L ++ [(spB j ++ strB k2, x3 + 1, 0, x4)]) ∧ Nm1 σ u) :=
  RC_imp (C_variant hN h hs.sm hj hk2 (sp_188 j hj) hni x3 x4) (fun _ u c hu => ⟨hu.1, NmA_snoc hu.2.1, hu.2.2⟩)
end
