/-! ===== the answers when nothing is assembled ===== -/
theorem FQ_0 (σ : MS) (v : Int32) : FQ σ (sF σ 0 v) := ⟨fun j _ h0 _ => sF_ne _ _ h0, fun k _ => rfl⟩
section
variable {N : Nat} {ns : List (List Int32)} {so va op re od : List Int32} {sG sR sL sX sP sI sE sY sN sT sF' : CS} {σ : MS}
theorem Z_all (h3 : σ.1 3 = 0) : M_all σ = some 0 := by
  unfold M_all M_all_34
  rw [if_pos h3]
theorem Z_labelAt (hN : 0 < N) (h3 : σ.1 3 = 0) (x : Int32) : M_labelAt N x σ = some (-1) := by
  obtain ⟨m, rfl⟩ : ∃ m, N = m + 1 := ⟨N - 1, by omega⟩
  unfold M_labelAt M_labelAt_12
  rw [if_pos h3]
  simp only [M_labelAt_15]
  unfold M_labelAt_58
  split
  · rfl
  · rw [if_pos (by decide)]
theorem Z_size (hG : sG.1 0 = 0) (h3 : σ.1 3 = 0) (x : Int32) : ∃ σ', FQ σ σ' ∧ ∃ r2, T_Asm_size x sG sR sL sX sE sY sF' sN sT sP sI = some 1 ∧ M_size N x σ = some (r2, σ') ∧ σ'.1 0 = 1 := by
  refine ⟨sF σ 0 1, FQ_0 _ _, ?_⟩
  unfold T_Asm_size M_size M_refuse
  rw [if_pos hG, if_pos h3]
  exact ⟨_, rfl, rfl, sF_at _ _ _⟩
theorem Z_byteAt (hG : sG.1 0 = 0) (h3 : σ.1 3 = 0) (x : Int32) : ∃ σ', FQ σ σ' ∧ ∃ r2, T_Asm_byteAt x sG sR sL sX sE sY sF' sN sT sP sI = some 3 ∧ M_byteAt N x σ = some (r2, σ') ∧ σ'.1 0 = 1 := by
  refine ⟨sF σ 0 1, FQ_0 _ _, ?_⟩
  unfold T_Asm_byteAt T_Asm_byteAt_22 M_byteAt M_byteAt_12 M_refuse
  rw [if_pos hG, Z_all h3]
  simp only [cr, Option.bind_some]
  by_cases hx : x < 0
  · rw [if_pos hx]
    exact ⟨_, trivial, rfl, sF_at _ _ _⟩
  · rw [if_neg hx, if_neg hx]
    exact ⟨_, trivial, rfl, sF_at _ _ _⟩
theorem Z_isLabel (hG : sG.1 0 = 0) (x : Int32) : C_Asm_isLabel x sG sR sL sX sE sY sF' sN sT sP sI = some 0 := by
  unfold C_Asm_isLabel C_Asm_isLabel_29 C_Asm_isLabel_30
  rw [if_pos hG]
  rfl
theorem Z_address (hN : 0 < N) (hG : sG.1 0 = 0) (h3 : σ.1 3 = 0) (x : Int32) : ∃ σ', FQ σ σ' ∧ ∃ r2, T_Asm_address x sG sR sL sX sE sY sF' sN sT sP sI = some 3 ∧ M_address N x σ = some (r2, σ') ∧ σ'.1 0 = 1 := by
  refine ⟨sF σ 0 1, FQ_0 _ _, 0, ?_, ?_, sF_at _ _ _⟩
  · unfold T_Asm_address
    rw [Z_isLabel hG]
    simp only [cr, Option.bind_some]
    rw [if_pos trivial]
  · unfold M_address M_address_16 M_address_32
    rw [Z_labelAt hN h3]
    simp only [cr, bnd, Option.bind_some]
    rw [if_neg (by decide), if_neg (by decide)]
theorem Z_letter (hN : 0 < N) (hNL : NamL sN ns [] so va op re od) (hG : sG.1 0 = 0) (h3 : σ.1 3 = 0) (x y : Int32) : ∃ σ', FQ σ σ' ∧ ∃ r2, T_Asm_letter x y sG sR sL sX sE sY sF' sN sT sP sI = some 3 ∧ M_letter N x y σ = some (r2, σ') ∧ σ'.1 0 = 1 := by
  refine ⟨sF σ 0 1, FQ_0 _ _, 0, ?_, ?_, sF_at _ _ _⟩
  · unfold T_Asm_letter T_Asm_letter_33 T_Asm_letter_50
    rw [Z_isLabel hG]
    simp only [cr, Option.bind_some]
    rw [if_pos trivial]
    by_cases hy : y < 0
    · rw [if_pos hy]
    · rw [if_neg hy, C_Nam_lengthOf_eq hNL, if_pos (by decide)]
      simp only [Option.bind_some]
      rw [if_neg hy]
  · unfold M_letter M_letter_24 M_letter_48 M_letter_53 M_letter_76
    rw [Z_labelAt hN h3]
    simp only [cr, bnd, Option.bind_some]
    rw [if_neg (by decide), if_pos (by decide), sF_at, if_neg (by decide), gd_t (by decide)]
theorem Z_line (hG : sG.1 0 = 0) (h3 : σ.1 3 = 0) (x : Int32) : ∃ r σ', FQ σ σ' ∧ C_Asm_line x sG sR sL sX sE sY sF' sN sT sP sI = some r ∧ M_line N x σ = some (r, σ') := by
  refine ⟨0, sF σ 0 0, FQ_0 _ _, ?_, ?_⟩
  · unfold C_Asm_line C_Asm_line_36 C_Asm_line_37
    rw [if_pos hG]
  · unfold M_line M_line_17 M_line_26 M_line_49
    have h3' : (sF σ 0 0).1 3 = 0 := by rw [sF_ne _ _ (by decide)]; exact h3
    simp only [bnd]
    rw [Z_all h3']
    simp only [cr, Option.bind_some]
    by_cases hx : x < 0
    · rw [if_pos hx, if_neg (by decide)]
    · rw [if_neg hx, if_neg hx, if_neg (by decide)]
theorem Z_before (hN : 0 < N) (hG : sG.1 0 = 0) (h3 : σ.1 3 = 0) (x : Int32) : ∃ r σ', FQ σ σ' ∧ C_Asm_before N x sG sR sL sX sE sY sF' sN sT sP sI = some r ∧ M_before N x σ = some (r, σ') := by
  obtain ⟨m, rfl⟩ : ∃ m, N = m + 1 := ⟨N - 1, by omega⟩
  refine ⟨-1, sF σ 0 0, FQ_0 _ _, ?_, ?_⟩
  · unfold C_Asm_before C_Asm_before_25
    rw [if_pos hG]
    simp only [C_Asm_before_30]
    rw [if_pos (Int32.le_refl _)]
  · unfold M_before
    have h3' : (sF σ 0 0).1 3 = 0 := by rw [sF_ne _ _ (by decide)]; exact h3
    simp only [bnd, M_before_15]
    unfold M_before_87
    split
    · rfl
    · rfl
theorem M_clear_eq {X : List Int32} (hT : TY X σ) : ∃ σ', M_clear σ = some (nI X.length, σ') ∧ TY [] σ' ∧ σ'.1 0 = 0 ∧ (∀ j, j ≠ 0 → j ≠ 1 → σ'.1 j = σ.1 j) ∧ σ'.2 = σ.2 := by
  refine ⟨sF (sF σ 0 0) 1 0, ?_, ⟨?_, by decide, fun k hk => absurd hk (Nat.not_lt_zero _), fun c hc => by cases hc⟩, ?_, fun j h0 h1 => ?_, rfl⟩
  · unfold M_clear
    simp only [bnd]
    rw [sF_ne _ _ (by decide), hT.1]
  · rw [sF_at]; rfl
  · rw [sF_ne _ _ (by decide), sF_at]
  · rw [sF_ne _ _ h1, sF_ne _ _ h0]
theorem C_clear_eq {X : List Int32} (hX : RowL sX X) : ∃ u, C_Asm_clear sG sR sL sX sE sY sF' sN sT sP sI = some (nI X.length, u) ∧ RowL u [] ∧ u.2.2 = sX.2.2 := by
  obtain ⟨u, p1, p2, p3⟩ := C_Row_cut_eq hX 0 (by omega)
  rw [List.take_zero] at p2
  refine ⟨u, ?_, p2, p3⟩
  unfold C_Asm_clear
  rw [show (0 : Int32) = nI 0 from rfl, p1]
  show some (sX.1 0, u) = _
  rw [hX.cnt]
end
