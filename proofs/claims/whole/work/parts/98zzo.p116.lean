/-! ===== the names that stay: all operations ===== -/
abbrev En : Type := List Int32 × Int32 × Int32 × Int32
def NmA (σ : CS) (L : List En) : Prop := NamL σ (L.map (fun e => e.1)) [] (List.replicate L.length 0) (List.replicate L.length 0) (L.map (fun e => e.2.1)) (L.map (fun e => e.2.2.1)) (L.map (fun e => e.2.2.2))
def spB (j : Nat) : List Int32 := strB (ex_spelling.getD j 0)
def atm (j : Nat) : Bool := decide (ex_role.getD j 0 = 0) && decide (ex_word.getD j 0 &&& 127 = 47)
def opE (j : Nat) : List En := (spB j ++ strB 0, nI j + 1, 0, 0) :: (if atm j = true then [(spB j ++ strB 1, nI j + 1, 0, 67108864), (spB j ++ strB 2, nI j + 1, 0, 33554432), (spB j ++ strB 3, nI j + 1, 0, 100663296)] else [])
theorem sp_188 : ∀ j, j < 128 → ex_spelling.getD j 0 < 188 := by decide +kernel
theorem C_atm {j : Nat} (hj : j < 128) : C_Op_isAtomic j = some (b2 (atm j)) := by
  unfold C_Op_isAtomic C_Op_isAtomic_23 C_Op_isAtomic_24 atm
  rw [gd_t (decide_eq_true hj)]
  by_cases h1 : ex_role.getD j 0 = 0
  · rw [if_pos h1, gd_t (decide_eq_true hj), decide_eq_true h1]
    by_cases h2 : ex_word.getD j 0 &&& 127 = 47
    · rw [if_pos h2, decide_eq_true h2]; rfl
    · rw [if_neg h2, decide_eq_false h2]; rfl
  · rw [if_neg h1, decide_eq_false h1]; rfl
theorem NmA_snoc {σ : CS} {L : List En} {e : En} (h : NamL σ (L.map (fun e => e.1) ++ [e.1]) [] (List.replicate L.length 0 ++ [0]) (List.replicate L.length 0 ++ [0]) (L.map (fun e => e.2.1) ++ [e.2.1]) (L.map (fun e => e.2.2.1) ++ [e.2.2.1]) (L.map (fun e => e.2.2.2) ++ [e.2.2.2])) : NmA σ (L ++ [e]) := by
  unfold NmA
  rw [List.map_append, List.map_append, List.map_append, List.map_append, List.length_append, show List.replicate (L.length + [e].length) (0 : Int32) = List.replicate L.length 0 ++ [0] from List.replicate_succ']
  exact h
