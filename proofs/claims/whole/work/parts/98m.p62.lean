/-! ===== assemble(): the reference's ===== -/
def rdX (X : List Int32) : Nat × Nat × List Ev := rdAll X (lexS X 0).length (lexS X 0) 0 1 []
def stX (X : List Int32) : Nat × List Ev := strE X 3000 0 (rdX X).2.2
def ansX (X : List Int32) : Nat := if (rdX X).1 ≠ 0 then (rdX X).1 + 16 * (rdX X).2.1 else if 32768 < allN (stX X).2 then 7 else ckE X (stX X).2 (0, 0) (stX X).2
theorem rdAll_ln (X : List Int32) : ∀ (n : Nat) (ts : List AT) (sec ln : Nat) (E : List Ev), (rdAll X n ts sec ln E).2.1 ≤ ln + n
  | 0, ts, sec, ln, E => Nat.le_refl _
  | n + 1, ts, sec, ln, E => by
    rw [rdAll]
    split
    · show ln ≤ _; omega
    · split
      · show ln ≤ _; omega
      · have := rdAll_ln X n (rdLine X sec ln ts E).2.2.2.tail (rdLine X sec ln ts E).2.2.1 (ln + 1) (rdLine X sec ln ts E).2.1
        omega
theorem rdSt_le (X : List Int32) (sec ln : Nat) (a : AT) (ts : List AT) (E : List Ev) : (rdSt X sec ln a ts E).1 ≤ 15 := by
  unfold rdSt
  cases opO a.nm with
  | none => show 2 ≤ 15; omega
  | some o => exact fnF_le _ (stm_le _ _ _ _ _)
theorem rdLine_le (X : List Int32) (sec ln : Nat) (ts : List AT) (E : List Ev) : (rdLine X sec ln ts E).1 ≤ 15 := by
  unfold rdLine
  split
  · exact rdLab_le _ _ _ _ _ _
  · cases (rdLab X sec ln ts.length ts E).2.1 with
    | none => show 0 ≤ 15; omega
    | some a => exact rdSt_le _ _ _ _ _ _
theorem rdAll_le (X : List Int32) : ∀ (n : Nat) (ts : List AT) (sec ln : Nat) (E : List Ev), (rdAll X n ts sec ln E).1 ≤ 15
  | 0, ts, sec, ln, E => by show 0 ≤ 15; omega
  | n + 1, ts, sec, ln, E => by
    rw [rdAll]
    split
    · exact rdLine_le _ _ _ _ _
    · split
      · show 0 ≤ 15; omega
      · exact rdAll_le X n _ _ _ _
theorem rdX_wf {X : List Int32} (h : (rdX X).1 = 0) : WfE X (rdX X).2.2 := rdAll_wf _ _ _ _ _ 0 rfl (WfE_nil X) (fun e he => by cases he) rfl (Nat.zero_le _) (by omega) h
theorem ansX_lt {X : List Int32} (hX : X.length ≤ 4096) : ansX X < 2 ^ 31 := by
  unfold ansX
  have h1 := rdAll_le X (lexS X 0).length (lexS X 0) 0 1 []
  have h2 := rdAll_ln X (lexS X 0).length (lexS X 0) 0 1 []
  have h3 := lexS_len X 0
  split
  · show (rdX X).1 + 16 * (rdX X).2.1 < _
    unfold rdX
    omega
  · rename_i hz
    have hz0 := Decidable.not_not.mp hz
    split
    · omega
    · have key : ∀ (E E2 : List Ev) (s : Sz), (∀ e ∈ E2, e.2.2.1 ≤ 5000) → ckE X E s E2 ≤ 15 + 16 * 5000 := by
        intro E E2
        induction E2 with
        | nil => intro s _; show 0 ≤ _; omega
        | cons e r ih =>
          intro s h
          rw [ckE]
          split
          · have := ckB_le (ηE X E s e) (aE E s e) e.2.2.2.2.2
            have := h e List.mem_cons_self
            omega
          · exact ih _ (fun x hx => h x (List.mem_cons_of_mem _ hx))
      have hs : ∀ (n k : Nat) (E : List Ev), (∀ e ∈ E, e.2.2.1 ≤ 5000) → ∀ e ∈ (strE X n k E).2, e.2.2.1 ≤ 5000 := by
        intro n
        induction n with
        | zero => intro k E h; exact h
        | succ n ih =>
          intro k E h
          rw [strE]
          split
          · refine ih _ _ (fun f hf => ?_)
            have hg : ∀ (E2 : List Ev) (s : Sz), (∀ e ∈ E2, e.2.2.1 ≤ 5000) → ∀ f ∈ grE X (lbS (0, 0) E) (bsE E) s E2, f.2.2.1 ≤ 5000 := by
              intro E2
              induction E2 with
              | nil => intro s _ f hf; cases hf
              | cons e r ihr =>
                intro s h2 f hf
                rw [grE] at hf
                rcases List.mem_cons.mp hf with rfl | hf
                · exact h2 e List.mem_cons_self
                · exact ihr _ (fun x hx => h2 x (List.mem_cons_of_mem _ hx)) f hf
            exact hg E (0, 0) h f hf
          · exact h
      have hW := rdX_wf hz0
      have := key (stX X).2 (stX X).2 (0, 0) (hs 3000 0 _ (fun e he => by
        obtain ⟨A, B, hAB⟩ := List.append_of_mem he
        have hw := hW A e B hAB
        rw [hw.2.2.2.1]
        have := nlc_le X e.2.1
        have := hw.2.1
        omega))
      omega
section
variable {N : Nat} {X : List Int32} {σ : MS}
/-- past the copying -/
theorem asm_go (hN : 6000 < N) (T0 : TX σ (tw X) X.length) : RR (bnd (sF σ 14 (0 : Int32)) (fun σ1 => bnd (sF σ1 3 (0 : Int32)) (fun σ2 => cl (M_readAll N σ2) (fun r3 σ4 => (if (σ4.1 14) ≤ (0 : Int32) then cl (M_stretch N σ4) (fun r5 σ6 => bnd (sF σ6 3 (1 : Int32)) (fun σ7 => cr (M_all σ7) (fun r8 => (if r8 ≤ (32768 : Int32) then M_assemble_92 N σ7 else bnd (sF σ7 14 (7 : Int32)) (fun σ9 => M_assemble_92 N σ9))))) else some (σ4.1 14, σ4)))))) (fun v σ' => v = nI (ansX X) ∧ KT σ σ' ∧ (ansX X ≠ 0 → σ'.1 3 = 0) ∧ (ansX X = 0 → σ'.1 3 = 1 ∧ LdS X (stX X).2 (stX X).1 σ' ∧ ckE X (stX X).2 (0, 0) (stX X).2 = 0 ∧ (rdX X).1 = 0 ∧ allN (stX X).2 ≤ 32768 ∧ anX X (stX X).2 = false)) := by
  have hX := T0.small
  have hlen := lexS_len X 0
  refine RR_bnd (RR_bnd ?_)
  have T2 : TX (sF (sF σ 14 0) 3 0) (tw X) X.length := (T0.sFk 14 _ (by decide)).sFk 3 _ (by decide)
  refine RR_then (M_readAll_eq (by omega) T2 rfl) (fun _ σ4 h4 => ?_)
  have hle := rdAll_le X (lexS X 0).length (lexS X 0) 0 1 []
  have hln := rdAll_ln X (lexS X 0).length (lexS X 0) 0 1 []
  change RAP X _ (rdX X) σ4 at h4
  change (rdX X).1 ≤ 15 at hle
  change (rdX X).2.1 ≤ 1 + _ at hln
  unfold RAP at h4
  have kt2 : KT σ (sF (sF σ 14 0) 3 0) := ⟨rfl, rfl⟩
  by_cases hf : (rdX X).1 ≠ 0
  · rw [if_pos hf] at h4
    have ea : ansX X = (rdX X).1 + 16 * (rdX X).2.1 := by unfold ansX; rw [if_pos hf]
    refine RR_n ?_ (RR_ret ⟨?_, ?_, ?_, ?_⟩)
    · rw [h4.2, show (0 : Int32) = nI 0 from rfl, nI_leI (by omega) (by omega)]; omega
    · rw [h4.2, ea]
    · exact ⟨h4.1.1, h4.1.2.2.2.1⟩
    · intro _; rw [h4.1.2.2.1]; rfl
    · intro z; rw [ea] at z; omega
  · rw [if_neg hf] at h4
    have hf0 := Decidable.not_not.mp hf
    have hW := rdX_wf hf0
    have hSI := WfE_SI hX hW
    obtain ⟨r1, r2, r3, r4, r5, r6, r7⟩ := h4
    refine RR_y (by rw [r3]; exact Int32.le_refl _) ?_
    unfold M_stretch
    have hmu := mu_le hSI
    have hP : PreL X (sF (sF σ 14 0) 3 0) (rdX X).2.2 0 (sF σ4 8 0) := ⟨r1.tr ⟨rfl, rfl, rfl, rfl, rfl⟩, hW, LBs.k ⟨r2.1, r2.2.1, r2.2.2⟩, r4, by omega, fun i hi => ?_, r7, r3, rfl⟩
    · have st := str_7 (N := N) (by omega) T2 3000 N (rdX X).2.2 0 _ (by omega) (by omega) (by omega) hP
      refine RR_then (RR_bnd st) (fun _ σ6 h6 => RR_bnd ?_)
      obtain ⟨kf6, hL, han⟩ := h6
      change LdS X (stX X).2 (stX X).1 σ6 at hL
      change anX X (stX X).2 = false at han
      have hL7 : LdS X (stX X).2 (stX X).1 (sF σ6 3 1) := by
        obtain ⟨g1, g2, g3, g4⟩ := hL
        exact ⟨g1.sFk 3 _ (by decide), g2, ⟨g3.1, g3.2.1, g3.2.2⟩, g4⟩
      have hla := lay_all hX hL.2.1
      have hal : allN (stX X).2 < 2 ^ 31 := by
        unfold allN bsE baseN
        split <;> omega
      refine RR_cr (M_all_eq hX hL.2.1 rfl hL7.2.2.2.1 hL7.2.2.2.2.1) ?_
      have kt6 : KT σ σ6 := ⟨kf6.1, kf6.2.2.2.1⟩
      by_cases h32 : 32768 < allN (stX X).2
      · have ea : ansX X = 7 := by unfold ansX; rw [if_neg hf, if_pos h32]
        refine RR_n (by rw [show (32768 : Int32) = nI 32768 from rfl, nI_leI (by omega) (by omega)]; omega) (RR_bnd ?_)
        unfold M_assemble_92
        obtain ⟨N', rfl⟩ : ∃ N', N = N' + 1 := ⟨N - 1, by omega⟩
        refine RR_imp (ck_end (F := 7) (τ := sF (sF σ6 3 1) 14 7) rfl (by omega) (by omega) N' 0) (fun v σ' h => ?_)
        rw [ea]
        exact ⟨h.1, ⟨h.2.2.1.trans kt6.1, h.2.2.2.trans kt6.2⟩, fun _ => h.2.1, fun z => by omega⟩
      · have ea : ansX X = ckE X (stX X).2 (0, 0) (stX X).2 := by unfold ansX; rw [if_neg hf, if_neg h32]
        refine RR_y (by rw [show (32768 : Int32) = nI 32768 from rfl, nI_leI (by omega) (by omega)]; omega) ?_
        unfold M_assemble_92
        have ck := ck_loop (N := N) (by omega) hL7 (stX X).2 [] N (sF σ6 3 1) rfl ⟨fun _ _ _ => rfl, fun _ _ => rfl⟩ hL7.2.2.2.2.2.2.2.2.2.1 (by have := hL.2.2.2.2.2.2.1; omega)
        refine RR_imp ck (fun v σ' h => ?_)
        rw [ea]
        change v = nI (ckE X (stX X).2 (0, 0) (stX X).2) ∧ _ at h
        refine ⟨h.1, ?_, fun z => (h.2.1 z).1, fun z => ?_⟩
        · by_cases hz : ckE X (stX X).2 (0, 0) (stX X).2 = 0
          · obtain ⟨-, hF, -⟩ := h.2.2 hz
            exact ⟨(hF.1 1 (by decide) (by decide)).trans kt6.1, (hF.2 0 (by decide)).trans kt6.2⟩
          · obtain ⟨-, k⟩ := h.2.1 hz
            exact ⟨k.1.trans kt6.1, k.2.trans kt6.2⟩
        · obtain ⟨h3, hF, hl⟩ := h.2.2 z
          obtain ⟨g1, g2, g3, g4, g5, g6, g7, g8, g9, g10, g11, g12⟩ := hL7
          refine ⟨h3, ⟨⟨?_, fun k hk => ?_, hX⟩, g2, g3.fx ?_ ?_ ?_, ?_, ?_, ?_, g7, fun i hi => ?_, fun i hi => ?_, hl, ?_, ?_⟩, z, hf0, by omega, han⟩
          · rw [hF.1 2 (by decide) (by decide)]; exact g1.size
          · rw [hF.2 1 (by decide)]; exact g1.text k hk
          · exact hF.1 5 (by decide) (by decide)
          · exact hF.2 5 (by decide)
          · exact hF.2 6 (by decide)
          · rw [hF.1 6 (by decide) (by decide)]; exact g4
          · rw [hF.1 7 (by decide) (by decide)]; exact g5
          · rw [hF.1 4 (by decide) (by decide)]; exact g6
          · have := g8 i hi
            unfold StQ at this ⊢
            rw [hF.2 2 (by decide), hF.2 4 (by decide)]
            exact this
          · rw [hF.2 3 (by decide)]; exact g9 i hi
          · rw [hF.1 14 (by decide) (by decide)]; exact g11
          · rw [hF.1 8 (by decide) (by decide)]; exact g12
    · have hm : (StE (rdX X).2.2).getD i ev0 ∈ StE (rdX X).2.2 := by rw [gD_e hi]; exact List.getElem_mem _
      have hm2 := (List.mem_filter.mp hm).1
      have hk5 : ((StE (rdX X).2.2).getD i ev0).1 = 5 := by have := (List.mem_filter.mp hm).2; simpa using this
      exact (r5 i hi).q ((hSI _ hm2).1 hk5)
/-- the text that was typed -/
def TY (X : List Int32) (σ : MS) : Prop := σ.1 1 = nI X.length ∧ X.length ≤ 4096 ∧ (∀ k, k < X.length → σ.2 0 k = tw X k) ∧ ∀ c ∈ X, okT c
theorem M_assemble_eq (hN : 6000 < N) (hT : TY X σ) : RR (M_assemble N σ) (fun v σ' => v = nI (ansX X) ∧ KT σ σ' ∧ (ansX X ≠ 0 → σ'.1 3 = 0) ∧ (ansX X = 0 → σ'.1 3 = 1 ∧ LdS X (stX X).2 (stX X).1 σ' ∧ ckE X (stX X).2 (0, 0) (stX X).2 = 0 ∧ (rdX X).1 = 0 ∧ allN (stX X).2 ≤ 32768 ∧ anX X (stX X).2 = false)) := by
  obtain ⟨h1, hX, hty, hV⟩ := hT
  unfold M_assemble
  refine RR_bnd (RR_bnd ?_)
  have loop : ∀ (m k : Nat) (τ : MS), k ≤ X.length → X.length - k < m → τ.1 2 = nI X.length → KT σ τ → (∀ j, j < k → τ.2 1 j = tw X j) → RR (M_assemble_15 N m (nI k) τ) (fun v σ' => v = nI (ansX X) ∧ KT σ σ' ∧ (ansX X ≠ 0 → σ'.1 3 = 0) ∧ (ansX X = 0 → σ'.1 3 = 1 ∧ LdS X (stX X).2 (stX X).1 σ' ∧ ckE X (stX X).2 (0, 0) (stX X).2 = 0 ∧ (rdX X).1 = 0 ∧ allN (stX X).2 ≤ 32768 ∧ anX X (stX X).2 = false)) := by
    intro m
    induction m with
    | zero => intro k τ _ h; omega
    | succ m ih =>
      intro k τ hk hm h2 kt hc
      rw [M_assemble_15]
      show RR (if τ.1 2 ≤ nI k then _ else _) _
      by_cases he : X.length ≤ k
      · refine RR_y (by rw [h2, nI_leI (by omega) (by omega)]; exact he) ?_
        refine RR_imp (asm_go hN ⟨h2, fun j hj => hc j (by omega), hX⟩) (fun v σ' h => ⟨h.1, ⟨h.2.1.1.trans kt.1, h.2.1.2.trans kt.2⟩, h.2.2⟩)
      · refine RR_n (by rw [h2, nI_leI (by omega) (by omega)]; exact he) (RR_gd (inB_nI (by omega) (by omega)) (RR_gd (inB_nI (by omega) (by omega)) (RR_bnd ?_)))
        rw [nI_clamp (by omega), nI_1]
        refine ih (k + 1) _ (by omega) (by omega) h2 ⟨kt.1, by rw [sA_ne (by decide)]; exact kt.2⟩ (fun j hj => ?_)
        rw [sA_eq]
        by_cases hj2 : j = k
        · rw [hj2, pk_us, kt.2, hty k (by omega)]
          exact okT_nar (hV _ (getD_mem (by omega)))
        · rw [pk_un hj2]; exact hc j (by omega)
  refine loop N 0 _ (by omega) (by omega) ?_ ⟨rfl, rfl⟩ (fun j hj => absurd hj (Nat.not_lt_zero _))
  rw [sF_at, sF_ne _ _ (by decide)]
  exact h1
end
