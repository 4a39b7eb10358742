/-! ===== the class's answers: before, letters, sizes ===== -/
theorem nmAt_mem (X : List Int32) (p : Nat) : ∀ c, c ∈ nmAt X p → c ∈ X := by
  intro c hc
  unfold nmAt cut at hc
  exact List.mem_of_mem_drop (List.mem_of_mem_take hc)
theorem lt_31 {x : Int32} (hx : ¬ x < 0) : x = nI x.toNatClampNeg ∧ x.toNatClampNeg < 2 ^ 31 := by
  refine ⟨(nI_c hx).symm, ?_⟩
  have := Int32.toInt_lt x
  have h1 : x.toNatClampNeg = x.toInt.toNat := rfl
  omega
theorem nm_cnt : ∀ (E : List Ev) (s : Sz), ((lbS s E).filter nmP).length = ((LbE E).filter nmP).length
  | [], s => rfl
  | e :: E, s => by
    have hl : lbS s (e :: E) = (if e.1 < 5 then [(e.2.1, e.1, if e.1 = 2 then e.2.2.2.2.1 else nI (offS s e.2.2.2.1))] else []) ++ lbS (stepE s e) E := rfl
    rw [hl, LbE_cons, List.filter_append, List.filter_append, List.length_append, List.length_append, nm_cnt E]
    congr 1
    split
    · rw [List.filter_cons, List.filter_cons]
      unfold nmP
      simp only []
      split <;> rfl
    · rfl
theorem cn_cnt : ∀ (E : List Ev), ((LbE E).filter cnP).length = cnE E
  | [] => rfl
  | e :: E => by
    have ih := cn_cnt E
    unfold cnE at ih ⊢
    rw [LbE_cons, List.filter_append, List.length_append, ih, List.filter_cons]
    by_cases h2 : e.1 = 2
    · rw [if_pos (by omega), if_pos (decide_eq_true h2), List.filter_cons, if_pos (by unfold cnP; exact decide_eq_true h2), List.filter_nil, List.length_cons, List.length_cons, List.length_nil]
      omega
    · rw [if_neg (show ¬ decide (e.1 = 2) = true by simpa using h2)]
      split
      · rw [List.filter_cons, if_neg (by unfold cnP; simpa using h2), List.filter_nil, List.length_nil, Nat.zero_add]
      · rw [List.filter_nil, List.length_nil, Nat.zero_add]
section
variable {N : Nat} {X : List Int32} {ns : List (List Int32)} {Y K V so va op re od : List Int32} {sG sR sL sX sP sI sE sY sN sT sF : CS} {R : Nat × List Ev} {σ : MS}
theorem nm_pos (h : LdC X ns Y K V so va R sE sN sP sI op re od) : ∀ i, i < (nmLb R.2).length → 0 ≤ ((nmLb R.2).getD i (0, 0)).2 := by
  obtain ⟨⟨hX, hW, hNm, hPr, hL, hc, hPl⟩, -⟩ := h
  intro n hn
  have hall := lb_all R.2 [] (show R.2 = [] ++ R.2 from rfl)
  have e1 : (nmLb R.2).length = ((lbS (0, 0) R.2).filter nmP).length := by unfold nmLb; rw [List.length_map]
  have hl1 := hall.len
  obtain ⟨F1, f, F2, g1, g2, g3, g4⟩ := All2_at hall n (by rw [hl1]; show n < ((lbS (0, 0) R.2).filter nmP).length; omega) 0 lb0
  have g4' : ((lbS (0, 0) R.2).filter nmP).getD n lb0 = (f.2.1, f.1, nI (offS (lay (0, 0) F1) f.2.2.2.1)) := g4
  have hnm : (nmLb R.2).getD n (0, 0) = (f.2.1, valL (nI (bsE R.2)) (f.2.1, f.1, nI (offS (lay (0, 0) F1) f.2.2.2.1))) := by
    unfold nmLb
    rw [map_getD _ _ n lb0 (0, 0) (by omega), g4']
  have hla := lay_all hX hW
  have hb := base_ge (lay (0, 0) R.2).1
  have hbs : bsE R.2 = baseN (lay (0, 0) R.2).1 := rfl
  have hmo := lay_mono hX hW (show R.2 = F1 ++ (f :: F2) from g1)
  have hoff : offS (lay (0, 0) F1) f.2.2.2.1 ≤ 163840000 := by unfold offS; split <;> omega
  rw [hnm]
  unfold valL
  simp only []
  split
  · rw [nI_add]; exact (nI_leI (a := 0) (by omega) (by omega)).mpr (Nat.zero_le _)
  · exact (nI_leI (a := 0) (by omega) (by omega)).mpr (Nat.zero_le _)
theorem Q_before (hN : 6000 < N) (h : LdC X ns Y K V so va R sE sN sP sI op re od) (hG : sG.1 0 = 1) (hL : LdS X R.2 R.1 σ) (h3 : σ.1 3 = 1) (x : Int32) : ∃ r σ', FQ σ σ' ∧ C_Asm_before N x sG sR sL sX sE sY sF sN sT sP sI = some r ∧ M_before N x σ = some (r, σ') := by
  obtain ⟨hl, h5, -⟩ := lab_n h
  have hg : ¬ sG.1 0 = 0 := by rw [hG]; decide
  have hcnt : sP.1 100 = nI (nmLb R.2).length := by rw [← hl]; exact h.2.2.2.1.cnt
  obtain ⟨σ', hM, hF⟩ := M_before_eq (N := N) (by omega) hL h3 x
  refine ⟨_, σ', hF, ?_, hM⟩
  unfold C_Asm_before C_Asm_before_25
  rw [if_neg hg, hcnt]
  have := Q_before30 (N := N) (sG := sG) (sR := sR) (sL := sL) (sX := sX) (sY := sY) (sF := sF) (sT := sT) h x (nmLb R.2).length 0 N (-1) 0 (by omega) (by omega) (by decide) (fun _ => rfl) (nm_pos h)
  rw [List.drop_zero] at this
  exact this
theorem Q_size (hN : 4200 < N) (h : LdC X ns Y K V so va R sE sN sP sI op re od) (hG : sG.1 0 = 1) (hL : LdS X R.2 R.1 σ) (h3 : σ.1 3 = 1) (x : Int32) : ∃ σ', FQ σ σ' ∧ ((∃ r, C_Asm_size x sG sR sL sX sE sY sF sN sT sP sI = some r ∧ M_size N x σ = some (r, σ') ∧ σ'.1 0 = 0) ∨ (∃ r2, T_Asm_size x sG sR sL sX sE sY sF sN sT sP sI = some 2 ∧ M_size N x σ = some (r2, σ') ∧ σ'.1 0 = 2)) := by
  obtain ⟨hl, h5, -⟩ := lab_n h
  obtain ⟨hend, hall⟩ := Ld_all h
  have hcnt : sP.1 100 = nI (nmLb R.2).length := by rw [← hl]; exact h.2.2.2.1.cnt
  obtain ⟨⟨hX, hW, hNm, hPr, hL', hc, p2, p7, p3, -⟩, -, hcn, -, hrd, -⟩ := h
  have hg : ¬ sG.1 0 = 0 := by rw [hG]; decide
  have e3 : (nmLb R.2).length = ((LbE R.2).filter nmP).length := by unfold nmLb; rw [List.length_map, nm_cnt]
  rcases M_size_eq hN hL h3 x with ⟨w, σ', hw, rfl, hM, hF, h0⟩ | ⟨hno, r, σ', hM, hF, h2⟩
  · refine ⟨σ', hF, Or.inl ⟨_, ?_, hM, h0⟩⟩
    unfold C_Asm_size szX
    rw [if_neg hg, hend, hcnt, p2, p3, hcn, hrd, e3, ← cn_cnt]
    rcases (show w = 0 ∨ w = 1 ∨ w = 2 ∨ w = 3 ∨ w = 4 ∨ w = 5 by omega) with z | z | z | z | z | z <;> subst z <;> rfl
  · refine ⟨σ', hF, Or.inr ⟨r, ?_, hM, h2⟩⟩
    unfold T_Asm_size
    have ne : ∀ w : Nat, w ≤ 5 → ¬ x = nI w := fun w hw z => hno ⟨w, hw, z⟩
    rw [if_neg hg, if_neg (show ¬ x = 0 from ne 0 (by omega)), if_neg (show ¬ x = 1 from ne 1 (by omega)), if_neg (show ¬ x = 2 from ne 2 (by omega)), if_neg (show ¬ x = 3 from ne 3 (by omega)), if_neg (show ¬ x = 4 from ne 4 (by omega)), if_neg (show ¬ x = 5 from ne 5 (by omega))]
theorem chr_128 : ∀ k, k < 128 → isC (((nI k).toUInt32 % 65536).toInt32) = true ∧ ((nI k).toUInt32 % 65536).toInt32 = nI k := by decide +kernel
theorem Q_letter (hN : 4200 < N) (h : LdC X ns Y K V so va R sE sN sP sI op re od) (hV : ∀ c ∈ X, okT c) (hG : sG.1 0 = 1) (hL : LdS X R.2 R.1 σ) (h3 : σ.1 3 = 1) (x y : Int32) : ∃ σ', FQ σ σ' ∧ ((∃ r, C_Asm_letter x y sG sR sL sX sE sY sF sN sT sP sI = some r ∧ M_letter N x y σ = some (r, σ') ∧ σ'.1 0 = 0) ∨ (∃ r2, T_Asm_letter x y sG sR sL sX sE sY sF sN sT sP sI = some 3 ∧ M_letter N x y σ = some (r2, σ') ∧ σ'.1 0 = 1)) := by
  obtain ⟨hl, h5, hn⟩ := lab_n h
  have hNS := h.2.1
  have hsm := hNS.1.small
  rcases M_letter_eq hN hL hV h3 x y with ⟨n, i, σ', rfl, rfl, hnl, hil, hM, hF, h0⟩ | ⟨hx, r, σ', hM, hF, h1⟩
  · obtain ⟨v, j, g1, g2, ⟨rr, f1, f2, f3⟩, j1, j2⟩ := hn n hnl
    refine ⟨σ', hF, Or.inl ⟨_, ?_, hM, h0⟩⟩
    rcases Q_isLabel (sR := sR) (sL := sL) (sX := sX) (sY := sY) (sF := sF) (sT := sT) h hG (nI n) with ⟨n', e', hn', hc⟩ | ⟨hx, -⟩
    · have hi31 : i < 2 ^ 30 := by
        rw [← j2] at hil
        have : (ns.getD j []).length ≤ ns.flatten.length := by
          rw [gD_e j1]
          exact List.Sublist.length_le (List.sublist_flatten_of_mem (List.getElem_mem j1))
        have := hsm.2
        rw [List.append_nil] at this
        omega
      have hlen : C_Nam_lengthOf (nI j) sN = some (nI (ns.getD j []).length) := by
        rw [C_Nam_lengthOf_eq hNS.1, if_neg (nI_pos (by omega)), nI_clamp (by omega)]
      have hlt : C_Nam_letterOf (nI j) (nI i) sN = some ((ns.getD j []).getD i 0) := C_Nam_letterOf_eq hNS.1 j1 (by rw [j2]; exact hil)
      have hch : ∃ k, k < 128 ∧ (nmAt X ((nmLb R.2).getD n (0, 0)).1).getD i 0 = nI k := by
        rw [gD_e hil]
        have hm := List.getElem_mem hil
        obtain ⟨k, hk, e⟩ := okT_nI (hV _ (nmAt_mem X _ _ hm))
        exact ⟨k, by omega, e⟩
      have hlen2 : (ns.getD j []).length < 2 ^ 31 := by
        have : (ns.getD j []).length ≤ ns.flatten.length := by
          rw [gD_e j1]
          exact List.Sublist.length_le (List.sublist_flatten_of_mem (List.getElem_mem j1))
        have := hsm.2
        rw [List.append_nil] at this
        omega
      unfold C_Asm_letter C_Asm_letter_33
      rw [hc]
      simp only [cr, Option.bind_some]
      rw [if_neg (by decide), g1]
      simp only [Option.bind_some]
      rw [f1]
      simp only [Option.bind_some]
      rw [gd_t (decide_eq_true f2), f3, if_neg (nI_pos (by omega)), hlen]
      simp only [Option.bind_some]
      rw [if_pos ((nI_ltI (by omega) hlen2).mpr (by rw [j2]; exact hil)), hlt]
      simp only [Option.bind_some]
      obtain ⟨k, hk, e⟩ := hch
      rw [j2, e, gd_t (chr_128 k hk).1, (chr_128 k hk).2]
    · exfalso
      rcases hx with z | ⟨n', e', h1, h2⟩
      · exact nI_pos (by omega) z
      · rw [nI_eq (by omega) h1] at e'; omega
  · refine ⟨σ', hF, Or.inr ⟨r, ?_, hM, h1⟩⟩
    unfold T_Asm_letter T_Asm_letter_33 T_Asm_letter_50
    have hm1 : C_Nam_lengthOf (-1) sN = some 0 := by rw [C_Nam_lengthOf_eq hNS.1, if_pos (by decide)]
    rcases Q_isLabel (sR := sR) (sL := sL) (sX := sX) (sY := sY) (sF := sF) (sT := sT) h hG x with ⟨n, e', hn', hc⟩ | ⟨-, hc⟩
    · obtain ⟨v, j, g1, g2, ⟨rr, f1, f2, f3⟩, j1, j2⟩ := hn n hn'
      have hlen2 : (ns.getD j []).length < 2 ^ 31 := by
        have : (ns.getD j []).length ≤ ns.flatten.length := by
          rw [gD_e j1]
          exact List.Sublist.length_le (List.sublist_flatten_of_mem (List.getElem_mem j1))
        have := hsm.2
        rw [List.append_nil] at this
        omega
      have hlen : C_Nam_lengthOf (nI j) sN = some (nI (ns.getD j []).length) := by
        rw [C_Nam_lengthOf_eq hNS.1, if_neg (nI_pos (by omega)), nI_clamp (by omega)]
      rw [hc]
      simp only [cr, Option.bind_some]
      rw [if_neg (by decide), e', g1]
      simp only [Option.bind_some]
      rw [f1]
      simp only [Option.bind_some]
      rw [gd_t (decide_eq_true f2), f3]
      by_cases hy : y < 0
      · rw [if_pos hy]
      · rw [if_neg hy, hlen]
        simp only [Option.bind_some]
        rw [if_neg]
        intro z
        rcases hx with q | ⟨n2, q1, q2, q3⟩ | q | ⟨n2, i2, q1, q2, q3, q4, q5⟩
        · rw [e'] at q; exact nI_pos (by omega) q
        · rw [e', nI_eq (by omega) q2] at q1; omega
        · exact hy q
        · rw [e', nI_eq (by omega) (by omega)] at q1
          rw [q3] at z
          have := (nI_ltI q4 hlen2).mp z
          rw [q1] at j2
          rw [j2] at this
          omega
    · rw [hc]
      simp only [cr, Option.bind_some]
      rw [if_pos trivial]
      by_cases hy : y < 0
      · rw [if_pos hy]
      · rw [if_neg hy, hm1]
        simp only [Option.bind_some]
        rw [if_neg hy]
end
