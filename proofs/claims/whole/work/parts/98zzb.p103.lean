/-! ===== the class's answers: bytes, lines ===== -/
theorem lay_mono {X : List Int32} {E A B : List Ev} (hX : X.length ≤ 4096) (hW : WfE X E) (hE : E = A ++ B) : (lay (0, 0) A).1 ≤ (lay (0, 0) E).1 ∧ (lay (0, 0) A).2 ≤ (lay (0, 0) E).2 := by
  rw [hE, lay_app]
  have := lay_le B (lay (0, 0) A) (fun x hx => WfE_SI hX hW x (by rw [hE]; exact List.mem_append_right _ hx))
  exact this.2
theorem cov_lt {X : List Int32} {E : List Ev} (hX : X.length ≤ 4096) (hW : WfE X E) {E1 E2 F1 F2 : List Ev} {e f : Ev} (h1 : E = E1 ++ e :: E2) (h2 : E = F1 ++ f :: F2) {k : Nat} (c1 : Cov E E1 e k) (c2 : Cov E F1 f k) : ¬ E1.length < F1.length := by
  intro hl
  obtain ⟨C, hC⟩ : ∃ C, F1 = (E1 ++ [e]) ++ C := by
    have p1 : E1 ++ [e] <+: E := ⟨E2, by rw [h1]; simp⟩
    have p2 : F1 <+: E := ⟨f :: F2, h2.symm⟩
    obtain ⟨C, hC⟩ := List.prefix_of_prefix_length_le p1 p2 (by simp; omega)
    exact ⟨C, hC.symm⟩
  have hb := base_ge (lay (0, 0) E).1
  have hWF : SIts C := fun x hx => WfE_SI hX hW x (by rw [h2, hC]; exact List.mem_append_left _ (List.mem_append_right _ hx))
  have hm := (lay_le C (lay (0, 0) (E1 ++ [e])) hWF).2
  rw [← lay_app, ← hC, lay_snoc] at hm
  obtain ⟨a1, a2⟩ := c1
  obtain ⟨b1, b2⟩ := c2
  have hbs : bsE E = baseN (lay (0, 0) E).1 := rfl
  have hin1 := off_in hX hW h1
  have hin2 := off_in hX hW h2
  unfold adS at a1 a2 b1 b2
  unfold offS at a2 b2 hin1 hin2
  unfold stepE at hm
  by_cases s1 : e.2.2.2.1 = 1
  · rw [if_pos s1] at a1 a2 hm hin1
    simp only [if_pos s1] at a2 hin1
    by_cases s2 : f.2.2.2.1 = 1
    · rw [if_pos s2] at b1
      simp only [] at hm
      omega
    · rw [if_neg s2] at b1 b2 hin2
      simp only [if_neg s2] at b2 hin2
      omega
  · rw [if_neg s1] at a1 a2 hm hin1
    simp only [if_neg s1] at a2 hin1
    by_cases s2 : f.2.2.2.1 = 1
    · rw [if_pos s2] at b1
      omega
    · rw [if_neg s2] at b1
      simp only [] at hm
      omega
theorem cov_uniq {X : List Int32} {E : List Ev} (hX : X.length ≤ 4096) (hW : WfE X E) {E1 E2 F1 F2 : List Ev} {e f : Ev} (h1 : E = E1 ++ e :: E2) (h2 : E = F1 ++ f :: F2) {k : Nat} (c1 : Cov E E1 e k) (c2 : Cov E F1 f k) : E1 = F1 ∧ e = f := by
  have n1 := cov_lt hX hW h1 h2 c1 c2
  have n2 := cov_lt hX hW h2 h1 c2 c1
  rw [h1] at h2
  have := List.append_inj h2 (by omega)
  exact ⟨this.1, by have := this.2; simp only [List.cons.injEq] at this; exact this.1⟩
theorem BytR_u {X : List Int32} {E : List Ev} (hX : X.length ≤ 4096) (hW : WfE X E) {k : Nat} {r r' : Int32} (h : BytR X E k r) (h' : BytR X E k r') : r = r' := by
  rcases h with ⟨a1, a2⟩ | ⟨E1, e, E2, a1, a2, a3, a4⟩
  · rcases h' with ⟨b1, b2⟩ | ⟨F1, f, F2, b1, b2, b3, b4⟩
    · rw [a2, b2]
    · exact absurd b3 (a1 F1 f F2 b1 b2)
  · rcases h' with ⟨b1, b2⟩ | ⟨F1, f, F2, b1, b2, b3, b4⟩
    · exact absurd a3 (b1 E1 e E2 a1 a2)
    · obtain ⟨rfl, rfl⟩ := cov_uniq hX hW a1 b1 a3 b3
      rw [a4, b4]
theorem LinR_u {X : List Int32} {E : List Ev} (hX : X.length ≤ 4096) (hW : WfE X E) {k : Nat} {r r' : Int32} (h : LinR E k r) (h' : LinR E k r') : r = r' := by
  rcases h with ⟨a1, a2⟩ | ⟨E1, e, E2, a1, a2, a3, a4⟩
  · rcases h' with ⟨b1, b2⟩ | ⟨F1, f, F2, b1, b2, b3, b4⟩
    · rw [a2, b2]
    · exact absurd b3 (a1 F1 f F2 b1 b2)
  · rcases h' with ⟨b1, b2⟩ | ⟨F1, f, F2, b1, b2, b3, b4⟩
    · exact absurd a3 (b1 E1 e E2 a1 a2)
    · obtain ⟨rfl, rfl⟩ := cov_uniq hX hW a1 b1 a3 b3
      rw [a4, b4]
section
variable {N : Nat} {X : List Int32} {ns : List (List Int32)} {Y K V so va op re od : List Int32} {sG sR sL sX sP sI sE sY sN sT sF : CS} {R : Nat × List Ev} {σ : MS}
theorem Ld_all (h : LdC X ns Y K V so va R sE sN sP sI op re od) : C_Prg_end sP sI = some (nI (allN R.2)) ∧ allN R.2 < 2 ^ 30 := by
  obtain ⟨⟨hX, hW, -, -, -, -, hPl⟩, -⟩ := h
  have hla := lay_all hX hW
  have hb := base_ge (lay (0, 0) R.2).1
  refine ⟨C_end hX hW hPl, ?_⟩
  have hbs : bsE R.2 = baseN (lay (0, 0) R.2).1 := rfl
  unfold allN
  split <;> omega
/-- byteAt: the answer, or thrown, on both sides -/
theorem Q_byteAt (hN : 4200 < N) (h : LdC X ns Y K V so va R sE sN sP sI op re od) (hG : sG.1 0 = 1) (hL : LdS X R.2 R.1 σ) (h3 : σ.1 3 = 1) (hck : ckE X R.2 (0, 0) R.2 = 0) (x : Int32) : ∃ σ', FQ σ σ' ∧ ((∃ r, C_Asm_byteAt x sG sR sL sX sE sY sF sN sT sP sI = some r ∧ M_byteAt N x σ = some (r, σ') ∧ σ'.1 0 = 0) ∨ (∃ r2, T_Asm_byteAt x sG sR sL sX sE sY sF sN sT sP sI = some 3 ∧ M_byteAt N x σ = some (r2, σ') ∧ σ'.1 0 = 1)) := by
  obtain ⟨hend, hall⟩ := Ld_all h
  obtain ⟨⟨hX, hW, -⟩, -, -, -, -, l, l1, r0, r1, t0, t1⟩ := h
  have hg : ¬ sG.1 0 = 0 := by rw [hG]; decide
  rcases M_byteAt_eq hN hL h3 hck x with ⟨k, r, σ', rfl, hk, hM, hF, h0, hB⟩ | ⟨hx, r, σ', hM, hF, h1⟩
  · refine ⟨σ', hF, Or.inl ⟨r, ?_, hM, h0⟩⟩
    unfold C_Asm_byteAt
    rw [if_neg hg, if_neg (nI_pos (by omega)), hend]
    simp only [cr, Option.bind_some]
    rw [if_pos ((nI_ltI (by omega) (by omega)).mpr hk), C_get r0 (by omega)]
    simp only [Option.bind_some]
    rw [BytR_u hX hW hB (byt_get hX hW t0 hk)]
  · refine ⟨σ', hF, Or.inr ⟨r, ?_, hM, h1⟩⟩
    unfold T_Asm_byteAt T_Asm_byteAt_22
    rw [if_neg hg]
    rcases hx with hx | ⟨k, rfl, hk, hk2⟩
    · rw [if_pos hx]
    · rw [if_neg (nI_pos hk), hend]
      simp only [cr, Option.bind_some]
      rw [if_neg (fun z => absurd ((nI_ltI hk (by omega)).mp z) (by omega))]
theorem Q_line (hN : 4200 < N) (h : LdC X ns Y K V so va R sE sN sP sI op re od) (hG : sG.1 0 = 1) (hL : LdS X R.2 R.1 σ) (h3 : σ.1 3 = 1) (x : Int32) : ∃ r σ', FQ σ σ' ∧ C_Asm_line x sG sR sL sX sE sY sF sN sT sP sI = some r ∧ M_line N x σ = some (r, σ') := by
  obtain ⟨hend, hall⟩ := Ld_all h
  obtain ⟨⟨hX, hW, -⟩, -, -, -, -, l, l1, r0, r1, t0, t1⟩ := h
  have hg : ¬ sG.1 0 = 0 := by rw [hG]; decide
  obtain ⟨r, σ', hM, hF, hr⟩ := M_line_eq hN hL h3 x
  refine ⟨r, σ', hF, ?_, hM⟩
  unfold C_Asm_line C_Asm_line_36 C_Asm_line_37
  rw [if_neg hg]
  rcases hr with ⟨k, rfl, hk, hB⟩ | ⟨hx, rfl⟩
  · rw [if_neg (nI_pos (by omega)), hend]
    simp only [cr, Option.bind_some]
    rw [if_neg (fun z => absurd ((nI_leI (by omega) (by omega)).mp z) (by omega)), C_get r1 (by omega)]
    simp only [Option.bind_some]
    rw [LinR_u hX hW hB (lin_get hX hW t1 hk)]
  · rcases hx with hx | ⟨k, rfl, hk, hk2⟩
    · rw [if_pos hx]
    · rw [if_neg (nI_pos hk), hend]
      simp only [cr, Option.bind_some]
      rw [if_pos ((nI_leI (by omega) hk).mpr hk2)]
end
