/-! ===== the names that stay: one operation's name, one register's name ===== -/
section
variable {N : Nat} {ns : List (List Int32)} {p so va op re od : List Int32} {σ : CS} {x y : Nat}
/-- the rows are small yet -/
def Sml (ns : List (List Int32)) (op re od : List Int32) : Prop := ns.flatten.length ≤ 20000 ∧ ns.length ≤ 20000 ∧ op.length ≤ 20000 ∧ re.length ≤ 20000 ∧ od.length ≤ 20000
theorem C_finReg (hN : 100000 < N) (h : NamL σ ns p so va op re od) (hs : Sml ns op re od) (hp : p.length ≤ 1000) (hni : p ∉ ns) (v : Int32) : RC (np σ x y) (C_Nam_finishRegister N v σ) (fun _ u c => c = np u x y ∧ NamL u (ns ++ [p]) [] (so ++ [0]) (va ++ [0]) (op ++ [0]) (re ++ [v + 1]) (od ++ [0]) ∧ Nm1 σ u) := by
  obtain ⟨s1, s2, s3, s4, s5⟩ := hs
  unfold C_Nam_finishRegister
  refine RC_then (RC_nfin h ⟨by rw [List.length_append]; omega, by omega⟩ (by omega) (by omega) hni) (fun r u c hu => ?_)
  obtain ⟨-, rfl, u3, u4⟩ := hu
  exact RC_three u3 (by omega) (by omega) (by omega) 0 (v + 1) 0 (fun σ' g1 g2 => RC_ret ⟨rfl, g1, u4.tr g2⟩)
theorem C_variant (hN : 100000 < N) (h : NamL σ ns [] so va op re od) (hs : Sml ns op re od) {j k2 : Nat} (hj : j < 128) (hk2 : k2 < 188) (hj1 : ex_spelling.getD j 0 < 188) (hni : strB (ex_spelling.getD j 0) ++ strB k2 ∉ ns) (x3 x4 : Int32) : RC (np σ x y) (C_Nam_enterVariant N j k2 x3 x4 σ) (fun _ u c => c = np u x y ∧ NamL u (ns ++ [strB (ex_spelling.getD j 0) ++ strB k2]) [] (so ++ [0]) (va ++ [0]) (op ++ [x3 + 1]) (re ++ [0]) (od ++ [x4]) ∧ Nm1 σ u) := by
  obtain ⟨s1, s2, s3, s4, s5⟩ := hs
  have l1 := (str_len _ hj1).2
  have l2 := (str_len _ hk2).2
  unfold C_Nam_enterVariant C_Nam_putAll
  refine RC_gd (decide_eq_true hj) ?_
  refine RC_then (RC_putAll (by omega) hj1 _ 0 N [] σ (Nat.zero_add _) (by omega) h (by simp only [List.length_nil]; omega)) (fun r u c hu => ?_)
  obtain ⟨rfl, u2, u3⟩ := hu
  rw [List.nil_append, List.drop_zero] at u2
  refine RC_then (RC_putAll (by omega) hk2 _ 0 N _ u (Nat.zero_add _) (by omega) u2 (by omega)) (fun r w c hw => ?_)
  obtain ⟨rfl, w2, w3⟩ := hw
  rw [List.drop_zero] at w2
  refine RC_then (RC_nfin w2 ⟨by rw [List.length_append, List.length_append]; omega, by omega⟩ (by rw [List.length_append]; omega) (by omega) hni) (fun r t c ht => ?_)
  obtain ⟨-, rfl, t3, t4⟩ := ht
  exact RC_three t3 (by omega) (by omega) (by omega) (x3 + 1) 0 x4 (fun σ' g1 g2 => RC_ret ⟨rfl, g1, ((u3.tr w3).tr t4).tr g2⟩)
end
