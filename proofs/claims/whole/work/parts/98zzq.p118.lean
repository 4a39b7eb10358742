/-! ===== the names that stay: an operation ===== -/
section
variable {N : Nat} {σ : CS} {x y : Nat}
theorem nd_ni {L M : List En} {e : En} (h : ((L ++ e :: M).map (fun e => e.1)).Nodup) : e.1 ∉ L.map (fun e => e.1) := by
  intro hm
  rw [List.map_append, List.map_cons] at h
  have := (List.nodup_append.mp h).2.2 e.1 hm e.1 List.mem_cons_self
  exact this rfl
theorem op_E (hN : 100000 < N) {L : List En} (h : NmA σ L) {j : Nat} (hj : j < 128) (hs : EnS (L ++ opE j)) (hd : ((L ++ opE j).map (fun e => e.1)).Nodup) : RC (np σ x y) (C_Nam_enterOperation N j (nI j) σ) (fun _ u c => c = np u x y ∧ NmA u (L ++ opE j) ∧ Nm1 σ u) := by
  unfold C_Nam_enterOperation
  unfold opE at hs hd ⊢
  refine RC_then (var_E hN h hs.pre hj (by omega) (nd_ni hd) (nI j) 0) (fun r u c hu => ?_)
  obtain ⟨rfl, u2, u3⟩ := hu
  refine RC_gd (decide_eq_true hj) (RC_cr (C_atm hj) ?_)
  unfold C_Nam_enterOperation_46
  by_cases ha : atm j = true
  · rw [if_pos ha] at hs hd ⊢
    refine RC_n (by rw [ha]; decide) ?_
    have e1 : ∀ (a b c d : En), L ++ [a, b, c, d] = (L ++ [a]) ++ b :: [c, d] := fun a b c d => by simp
    have e2 : ∀ (a b c d : En), L ++ [a, b, c, d] = ((L ++ [a]) ++ [b]) ++ c :: [d] := fun a b c d => by simp
    have e3 : ∀ (a b c d : En), L ++ [a, b, c, d] = (((L ++ [a]) ++ [b]) ++ [c]) ++ d :: [] := fun a b c d => by simp
    have hs1 := hs
    have hd1 := hd
    rw [e1] at hs1 hd1
    refine RC_then (var_E hN u2 hs1.pre hj (by omega) (nd_ni hd1) (nI j) 67108864) (fun r w c hw => ?_)
    obtain ⟨rfl, w2, w3⟩ := hw
    have hs2 := hs
    have hd2 := hd
    rw [e2] at hs2 hd2
    refine RC_then (var_E hN w2 hs2.pre hj (by omega) (nd_ni hd2) (nI j) 33554432) (fun r t c ht => ?_)
    obtain ⟨rfl, t2, t3⟩ := ht
    have hs3 := hs
    have hd3 := hd
    rw [e3] at hs3 hd3
    refine RC_then (var_E hN t2 hs3.pre hj (by omega) (nd_ni hd3) (nI j) 100663296) (fun r s c hs' => ?_)
    obtain ⟨rfl, s2, s3⟩ := hs'
    refine RC_ret ⟨rfl, ?_, ((u3.tr w3).tr t3).tr s3⟩
    rw [e3]
    exact s2
  · have ha' : atm j = false := by simpa using ha
    rw [if_neg ha]
    exact RC_y (by rw [ha']; rfl) (RC_ret ⟨rfl, u2, u3⟩)
end
