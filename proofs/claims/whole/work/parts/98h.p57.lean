/-! ===== layout(): the reference's ===== -/
def nxtS : List Ev → Nat
  | [] => 8191
  | e :: r => if e.1 = 5 then e.2.1 else nxtS r
theorem nxtS_eq : ∀ r : List Ev, nxtS r = if (StE r).length = 0 then 8191 else ((StE r).getD 0 ev0).2.1
  | [] => rfl
  | e :: r => by
    rw [StE_cons, nxtS]
    by_cases h : e.1 = 5
    · rw [if_pos h, if_pos h]; rfl
    · rw [if_neg h, if_neg h, nxtS_eq r]; rfl
theorem nxt_gt {X : List Int32} (hX : X.length ≤ 4096) {E : List Ev} (hW : WfE X E) : ∀ (r E1 : List Ev), E = E1 ++ r → ∀ e ∈ E1, e.2.1 < nxtS r
  | [], E1, hE, e, he => by
    show e.2.1 < 8191
    obtain ⟨A, B, hAB⟩ := List.append_of_mem (a := e) (l := E) (by rw [hE]; exact List.mem_append_left _ he)
    have := (hW A e B hAB).2.1
    omega
  | f :: r, E1, hE, e, he => by
    rw [nxtS]
    by_cases h : f.1 = 5
    · rw [if_pos h]; exact (hW E1 f r hE).1 e he
    · rw [if_neg h]
      exact nxt_gt hX hW r (E1 ++ [f]) (by rw [hE, List.append_assoc]; rfl) e (List.mem_append_left _ he)
/-- the kinds of an event -/
theorem WfP.kd {X : List Int32} {E1 : List Ev} {e : Ev} (h : WfP X E1 e) : e.1 ≤ 5 ∧ (e.1 ≠ 5 → e.1 < 5) ∧ (e.1 ≠ 2 → e.1 ≠ 5 → ((e.1 = 1 ∨ e.1 = 4) ↔ e.2.2.2.1 = 1)) := by
  obtain ⟨w1, w2, w3, w4, w5, w6, w7, w8, w9⟩ := h
  refine ⟨by omega, by omega, fun h1 h2 => by omega⟩
def FLy (σ τ : MS) : Prop := (∀ j, j ≠ 6 → j ≠ 7 → τ.1 j = σ.1 j) ∧ (∀ k, k ≠ 3 → k ≠ 6 → τ.2 k = σ.2 k)
theorem FLy.rf (σ : MS) : FLy σ σ := ⟨fun _ _ _ => rfl, fun _ _ _ => rfl⟩
theorem FLy.tr {a b c : MS} (h1 : FLy a b) (h2 : FLy b c) : FLy a c := ⟨fun j x y => (h2.1 j x y).trans (h1.1 j x y), fun k x y => (h2.2 k x y).trans (h1.2 k x y)⟩
/-- the reference's state while it lays out: E1 is done -/
def LyI (σ : MS) (E1 : List Ev) (τ : MS) : Prop := FLy σ τ ∧ τ.1 6 = nI (lay (0, 0) E1).1 ∧ τ.1 7 = nI (lay (0, 0) E1).2 ∧ (∀ i, i < (LbE E1).length → τ.2 6 i = ((lbS (0, 0) E1).getD i lb0).2.2) ∧ (∀ i, (LbE E1).length ≤ i → τ.2 6 i = σ.2 6 i) ∧ ∀ i, i < (StE E1).length → τ.2 3 i = nI ((ofS (0, 0) E1).getD i 0)
theorem getD_mid {α : Type} (A B : List α) (x d : α) : (A ++ x :: B).getD A.length d = x := by
  rw [gD_r (Nat.le_refl _), Nat.sub_self]
  rfl
section
variable {N : Nat} {X : List Int32} {E : List Ev} {σ : MS}
theorem StQ.fly {i : Nat} {e : Ev} {τ : MS} (h : StQ σ i e) (hF : FLy σ τ) : StQ τ i e := by
  unfold StQ
  rw [hF.2 2 (by decide) (by decide), hF.2 4 (by decide) (by decide)]
  exact h
set_option maxHeartbeats 1000000 in
theorem lay_loop (hN : 4200 < N) (hX : X.length ≤ 4096) (hW : WfE X E) (hL : LBk X σ (LbE E)) (h4 : σ.1 4 = nI (StE E).length) (hSn : (StE E).length ≤ 1025) (hS : ∀ i, i < (StE E).length → StQ σ i ((StE E).getD i ev0)) :
    ∀ (E2 E1 : List Ev) (m n : Nat) (τ : MS), E = E1 ++ E2 → LyI σ E1 τ → (LbE E2).length < m → (StE E2).length ≤ n → RR (M_layout_47 N (M_layout_14 N n) m (nI (LbE E1).length) (nI (StE E1).length) (nI (nxtS E2)) τ) (fun _ σ' => LyI σ E σ') := by
  have hSI := WfE_SI hX hW
  have hEl := WfE_len hW
  obtain ⟨L1, L2, L3⟩ := hL
  intro E2
  induction E2 with
  | nil =>
    intro E1 m n τ hE hI hm hn
    rw [List.append_nil] at hE
    subst hE
    obtain ⟨m', rfl⟩ : ∃ m', m = m' + 1 := ⟨m - 1, by omega⟩
    rw [M_layout_47]
    have e5 : τ.1 5 = nI (LbE E).length := by rw [hI.1.1 5 (by decide) (by decide)]; exact L1
    have e4 : τ.1 4 = nI (StE E).length := by rw [hI.1.1 4 (by decide) (by decide)]; exact h4
    show RR (if τ.1 5 ≤ nI (LbE E).length then _ else _) _
    refine RR_y (by rw [e5]; exact Int32.le_refl _) ?_
    unfold M_layout_121
    exact RR_y e4.symm (RR_ret hI)
  | cons e r ih =>
    intro E1 m n τ hE hI hm hn
    have hw := hW E1 e r hE
    obtain ⟨kd1, kd2, kd3⟩ := hw.kd
    have hwp := hw.2.1
    have hws := hw.2.2.1
    have e5 : τ.1 5 = nI (LbE E).length := by rw [hI.1.1 5 (by decide) (by decide)]; exact L1
    have e4 : τ.1 4 = nI (StE E).length := by rw [hI.1.1 4 (by decide) (by decide)]; exact h4
    have hE' : E = (E1 ++ [e]) ++ r := by rw [hE, List.append_assoc]; rfl
    have eLb : LbE E = LbE E1 ++ ((if e.1 < 5 then [(e.2.1, e.1, e.2.2.2.2.1)] else []) ++ LbE r) := by rw [hE, LbE_app, LbE_cons]
    have eSt : StE E = StE E1 ++ ((if e.1 = 5 then [e] else []) ++ StE r) := by rw [hE, StE_app, StE_cons]
    have hlp : (lay (0, 0) E1).1 + (lay (0, 0) E1).2 ≤ 163840000 := lay_pre (E2 := e :: r) (by rw [← hE]; exact hSI) (by rw [← hE]; omega)
    have hlp2 : (lay (0, 0) (E1 ++ [e])).1 + (lay (0, 0) (E1 ++ [e])).2 ≤ 163840000 := lay_pre (E2 := r) (by rw [← hE']; exact hSI) (by rw [← hE']; omega)
    have elay : lay (0, 0) (E1 ++ [e]) = stepE (lay (0, 0) E1) e := by rw [lay_app]; rfl
    have elbs : lbS (0, 0) (E1 ++ [e]) = lbS (0, 0) E1 ++ (if e.1 < 5 then [(e.2.1, e.1, if e.1 = 2 then e.2.2.2.2.1 else nI (offS (lay (0, 0) E1) e.2.2.2.1))] else []) := by
      rw [lbS_app]; show _ ++ (_ ++ []) = _; rw [List.append_nil]
    have eofs : ofS (0, 0) (E1 ++ [e]) = ofS (0, 0) E1 ++ (if e.1 = 5 then [offS (lay (0, 0) E1) e.2.2.2.1] else []) := by
      rw [ofS_app]; show _ ++ (_ ++ []) = _; rw [List.append_nil]
    have lbl : (lbS (0, 0) E1).length = (LbE E1).length := lbS_len _ _
    have ofl : (ofS (0, 0) E1).length = (StE E1).length := ofS_len _ _
    obtain ⟨m', rfl⟩ : ∃ m', m = m' + 1 := ⟨m - 1, by omega⟩
    obtain ⟨I1, I2, I3, I4, I5, I6⟩ := id hI
    rw [M_layout_47]
    show RR (if τ.1 5 ≤ nI (LbE E1).length then _ else _) _
    by_cases h5 : e.1 = 5
    · -- a statement
      rw [if_neg (by omega), List.nil_append] at eLb
      rw [if_pos h5] at eSt
      rw [if_neg (by omega), List.append_nil] at elbs
      rw [if_pos h5] at eofs
      have hSl : (StE E1).length < (StE E).length := by rw [eSt]; simp
      have hnx : nxtS (e :: r) = e.2.1 := by rw [nxtS, if_pos h5]
      have hq : StQ τ (StE E1).length e := by
        have := hS (StE E1).length hSl
        rw [show (StE E).getD (StE E1).length ev0 = e by rw [eSt]; exact getD_mid _ _ _ _] at this
        exact this.fly I1
      have hSI5 : SIt e.2.2.2.2.2 := (hSI e (by rw [hE]; simp)).1 h5
      have hsr : (StE (e :: r)).length = (StE r).length + 1 := by rw [StE_cons, if_pos h5]; simp
      obtain ⟨n', rfl⟩ : ∃ n', n = n' + 1 := ⟨n - 1, by omega⟩
      have s1030 : inB (nI (StE E1).length) 1030 = true := inB_nI (by omega) (by omega)
      -- the walk past the labels
      have go : RR (M_layout_121 N (M_layout_14 N (n' + 1)) (nI (LbE E1).length) (nI (StE E1).length) τ) (fun _ σ' => LyI σ E σ') := by
        unfold M_layout_121
        refine RR_n (by rw [e4, nI_eq (by omega) (by omega)]; omega) ?_
        refine RR_cr (M_sectionOf_eq (by omega) hq hSI5 (by omega) hws) ?_
        have w155 : RR (M_layout_155 N (M_layout_14 N (n' + 1)) (nI (LbE E1).length) (nI (StE E1).length) (nI (StE E1).length) (nI (offS (lay (0, 0) E1) e.2.2.2.1)) τ) (fun _ σ' => LyI σ E σ') := by
          unfold M_layout_155
          refine RR_gd s1030 (RR_bnd (RR_gd s1030 ?_))
          rw [nI_clamp (by omega), sA_eq, pk_us]
          have hof : offS (lay (0, 0) E1) e.2.2.2.1 < 2 ^ 31 := by unfold offS; split <;> omega
          have F2 : FLy τ (sA τ 3 (StE E1).length (nI (offS (lay (0, 0) E1) e.2.2.2.1))) := ⟨fun _ _ _ => rfl, fun k h1 h2 => sA_ne h1⟩
          refine RR_cr (M_sizeAt_eq (by omega) (hq.fly F2) hSI5 (by omega) hws hof) ?_
          refine RR_cr (M_sectionOf_eq (by omega) (hq.fly F2) hSI5 (by omega) hws) ?_
          have fin : ∀ τ' : MS, τ' = sF (sF (sA τ 3 (StE E1).length (nI (offS (lay (0, 0) E1) e.2.2.2.1))) 7 (nI (stepE (lay (0, 0) E1) e).2)) 6 (nI (stepE (lay (0, 0) E1) e).1) → RR (M_layout_14 N (n' + 1) (nI (LbE E1).length) (nI (StE E1).length + 1) τ') (fun _ σ' => LyI σ E σ') := by
            intro τ' hτ'
            have F3 : FLy σ τ' := I1.tr (by
              rw [hτ']
              exact ⟨fun j h1 h2 => by rw [sF_ne _ _ h1, sF_ne _ _ h2]; rfl, fun k h1 h2 => by rw [sF_2, sF_2]; exact sA_ne h1⟩)
            have hI' : LyI σ (E1 ++ [e]) τ' := by
              have elb : LbE (E1 ++ [e]) = LbE E1 := by rw [LbE_snoc, if_neg (by omega), List.append_nil]
              have est : StE (E1 ++ [e]) = StE E1 ++ [e] := by rw [StE_snoc, if_pos h5]
              refine ⟨F3, ?_, ?_, ?_, ?_, ?_⟩
              · rw [hτ', sF_at, elay]
              · rw [hτ', sF_ne _ _ (by decide), sF_at, elay]
              · rw [elb, elbs]
                intro i hi
                rw [hτ', sF_2, sF_2, sA_ne (by decide)]
                exact I4 i hi
              · rw [elb]
                intro i hi
                rw [hτ', sF_2, sF_2, sA_ne (by decide)]
                exact I5 i hi
              · rw [est, eofs]
                intro i hi
                rw [hτ', sF_2, sF_2, sA_eq]
                by_cases hi2 : i = (StE E1).length
                · rw [hi2, pk_us, ← ofl, getD_mid]
                · rw [pk_un hi2, gD_l (by simp at hi; omega)]
                  exact I6 i (by simp at hi; omega)
            have e4' : τ'.1 4 = nI (StE E).length := by rw [F3.1 4 (by decide) (by decide)]; exact h4
            have hlb' : (LbE (E1 ++ [e])).length = (LbE E1).length := by rw [LbE_snoc, if_neg (by omega), List.append_nil]
            have hst' : (StE (E1 ++ [e])).length = (StE E1).length + 1 := by rw [StE_snoc, if_pos h5]; simp
            have hSE : (StE E).length = (StE E1).length + 1 + (StE r).length := by rw [eSt]; simp; omega
            have hlr : (LbE r).length ≤ 2050 := by rw [eLb] at L2; simp at L2; omega
            rw [M_layout_14, nI_1]
            have ihh := ih (E1 ++ [e]) N n' τ' hE' hI' (by omega) (by omega)
            rw [hlb', hst'] at ihh
            show RR (if τ'.1 4 < nI ((StE E1).length + 1) then _ else _) _
            refine RR_n (by rw [e4', nI_ltI (by omega) (by omega)]; omega) ?_
            by_cases hlast : (StE r).length = 0
            · refine RR_y (by rw [e4', nI_leI (by omega) (by omega)]; omega) ?_
              unfold M_layout_46
              rw [nxtS_eq, if_pos hlast] at ihh
              exact ihh
            · refine RR_n (by rw [e4', nI_leI (by omega) (by omega)]; omega) (RR_gd (inB_nI (by omega) (by omega)) ?_)
              unfold M_layout_46
              rw [nxtS_eq, if_neg hlast] at ihh
              have hq2 := (hS ((StE E1).length + 1) (by omega)).fly F3
              have eg : (StE E).getD ((StE E1).length + 1) ev0 = (StE r).getD 0 ev0 := by
                rw [eSt, gD_r (by omega), show (StE E1).length + 1 - (StE E1).length = 1 by omega]
                rfl
              rw [eg] at hq2
              have hmem : (StE r).getD 0 ev0 ∈ E := by
                have : (StE r).getD 0 ev0 ∈ StE r := by
                  rw [gD_e (by omega)]; exact List.getElem_mem _
                rw [hE']
                exact List.mem_append_right _ ((List.mem_filter.mp this).1)
              have hk5 : ((StE r).getD 0 ev0).1 = 5 := by
                have : (StE r).getD 0 ev0 ∈ StE r := by
                  rw [gD_e (by omega)]; exact List.getElem_mem _
                have := (List.mem_filter.mp this).2
                simpa using this
              obtain ⟨A, B, hAB⟩ := List.append_of_mem hmem
              have hw2 := hW A _ B hAB
              have hSI2 := (hSI _ hmem).1 hk5
              obtain ⟨l1, l2, l3⟩ := SIt_lev hSI2
              rw [nI_clamp (by omega), hq2.1, pl_start (by have := hw2.2.1; omega) l1 hw2.2.2.1 l2]
              exact ihh
          have hpl : nI (lay (0, 0) E1).1 + 0 = nI (lay (0, 0) E1).1 := by rw [show (0 : Int32) = nI 0 from rfl, nI_add]; rfl
          have hpd : nI (lay (0, 0) E1).2 + 0 = nI (lay (0, 0) E1).2 := by rw [show (0 : Int32) = nI 0 from rfl, nI_add]; rfl
          by_cases hsec : e.2.2.2.1 = 1
          · rw [hsec]
            refine RR_y rfl ?_
            unfold M_layout_189
            refine RR_bnd ?_
            have F4 : FLy τ (sF (sA τ 3 (StE E1).length (nI (offS (lay (0, 0) E1) 1))) 7 ((sA τ 3 (StE E1).length (nI (offS (lay (0, 0) E1) 1))).1 7 + nI (szL (offS (lay (0, 0) E1) 1) e.2.2.2.2.2))) := ⟨fun j h1 h2 => by rw [sF_ne _ _ h2]; rfl, fun k h1 h2 => by rw [sF_2]; exact sA_ne h1⟩
            refine RR_cr (M_sectionOf_eq (by omega) (hq.fly F4) hSI5 (by omega) hws) ?_
            rw [hsec]
            refine RR_y rfl ?_
            unfold M_layout_213
            refine RR_bnd (fin _ ?_)
            rw [hsec]
            unfold stepE
            rw [if_pos hsec]
            show sF (sF _ 7 (τ.1 7 + _)) 6 (τ.1 6 + 0) = _
            rw [I3, I2, hpl, nI_add]
            rfl
          · have hs0 : e.2.2.2.1 = 0 := by omega
            rw [hs0]
            refine RR_n (by decide) ?_
            unfold M_layout_189
            refine RR_bnd ?_
            have F4 : FLy τ (sF (sA τ 3 (StE E1).length (nI (offS (lay (0, 0) E1) 0))) 7 ((sA τ 3 (StE E1).length (nI (offS (lay (0, 0) E1) 0))).1 7 + 0)) := ⟨fun j h1 h2 => by rw [sF_ne _ _ h2]; rfl, fun k h1 h2 => by rw [sF_2]; exact sA_ne h1⟩
            refine RR_cr (M_sectionOf_eq (by omega) (hq.fly F4) hSI5 (by omega) hws) ?_
            rw [hs0]
            refine RR_n (by decide) ?_
            unfold M_layout_213
            refine RR_bnd (fin _ ?_)
            rw [hs0]
            unfold stepE
            rw [if_neg hsec]
            show sF (sF _ 7 (τ.1 7 + 0)) 6 (τ.1 6 + _) = _
            rw [I3, I2, hpd, nI_add]
            rfl
        by_cases hsec : e.2.2.2.1 = 1
        · refine RR_y (by rw [hsec]; rfl) ?_
          rw [I3, show nI (lay (0, 0) E1).2 = nI (offS (lay (0, 0) E1) e.2.2.2.1) by unfold offS; rw [if_pos hsec]]
          exact w155
        · refine RR_n (by rw [show e.2.2.2.1 = 0 by omega]; decide) ?_
          rw [I2, show nI (lay (0, 0) E1).1 = nI (offS (lay (0, 0) E1) e.2.2.2.1) by unfold offS; rw [if_neg hsec]]
          exact w155
      rw [hnx]
      by_cases hlr : (LbE r).length = 0
      · refine RR_y ?_ go
        rw [e5, show (LbE E).length = (LbE E1).length by rw [eLb, List.length_append]; omega]
        exact Int32.le_refl _
      · have hlE : (LbE E1).length < (LbE E).length := by rw [eLb]; simp; omega
        refine RR_n (by rw [e5, nI_leI (by omega) (by omega)]; omega) (RR_gd (inB_nI (by omega) (by omega)) ?_)
        obtain ⟨g1, g2, g3, g4⟩ := L3 _ hlE
        have hget : (LbE E).getD (LbE E1).length lb0 ∈ LbE r := by
          rw [eLb, gD_r (Nat.le_refl _), Nat.sub_self, gD_e (show 0 < (LbE r).length by omega)]
          exact List.getElem_mem _
        obtain ⟨f, hf1, hf2⟩ := List.mem_filterMap.mp hget
        have hpos : e.2.1 < ((LbE E).getD (LbE E1).length lb0).1 := by
          unfold lbE at hf2
          split at hf2
          · injection hf2 with hf2
            rw [← hf2]
            obtain ⟨A, B, rfl⟩ := List.append_of_mem hf1
            exact (hW (E1 ++ e :: A) f B (by rw [hE]; simp)).1 e (by simp)
          · cases hf2
        refine RR_y ?_ go
        rw [nI_clamp (by omega), I1.2 5 (by decide) (by decide), g3, (lb_kind g2 (by omega)).2, nI_leI (by omega) (by omega)]
        omega
    · -- a label
      have hk := kd2 h5
      rw [if_pos hk] at eLb elbs
      rw [if_neg h5, List.nil_append] at eSt
      rw [if_neg h5, List.append_nil] at eofs
      have hlE : (LbE E1).length < (LbE E).length := by rw [eLb]; simp
      have elast : (LbE E).getD (LbE E1).length lb0 = (e.2.1, e.1, e.2.2.2.2.1) := by rw [eLb]; exact getD_mid _ _ _ _
      obtain ⟨g1, g2, g3, g4⟩ := L3 _ hlE
      rw [elast] at g1 g2 g3 g4
      have hnx : nxtS (e :: r) = nxtS r := by rw [nxtS, if_neg h5]
      have hgt : e.2.1 < nxtS r := nxt_gt hX hW r (E1 ++ [e]) hE' e (by simp)
      have hnle : nxtS r ≤ 8191 := by
        rw [nxtS_eq]
        split
        · exact Nat.le_refl _
        · rename_i hne
          have : (StE r).getD 0 ev0 ∈ StE r := by
            rw [gD_e (by omega)]; exact List.getElem_mem _
          have hm2 : (StE r).getD 0 ev0 ∈ E := by rw [hE']; exact List.mem_append_right _ ((List.mem_filter.mp this).1)
          obtain ⟨A, B, hAB⟩ := List.append_of_mem hm2
          have := (hW A _ B hAB).2.1
          omega
      have l2060 : inB (nI (LbE E1).length) 2060 = true := inB_nI (by omega) (by omega)
      refine RR_n (by rw [e5, nI_leI (by omega) (by omega)]; omega) (RR_gd l2060 ?_)
      rw [nI_clamp (by omega), I1.2 5 (by decide) (by decide), g3, (lb_kind g2 (by omega)).2]
      refine RR_n (by rw [hnx, nI_leI (by omega) (by omega)]; show ¬ nxtS r ≤ e.2.1; omega) (RR_gd l2060 (RR_bnd ?_))
      rw [(lb_kind g2 (by omega)).1, hnx]
      have hlb' : (LbE (E1 ++ [e])).length = (LbE E1).length + 1 := by rw [LbE_snoc, if_pos hk]; simp
      have hst' : (StE (E1 ++ [e])).length = (StE E1).length := by rw [StE_snoc, if_neg h5, List.append_nil]
      have hlr : (LbE (e :: r)).length = (LbE r).length + 1 := by rw [LbE_cons, if_pos hk]; simp
      have hsr : StE (e :: r) = StE r := by rw [StE_cons, if_neg h5]; rfl
      have hstep : stepE (lay (0, 0) E1) e = lay (0, 0) E1 := by
        unfold stepE
        rw [hw.2.2.2.2.2.1 h5]
        split <;> rfl
      have nx : ∀ τ' : MS, FLy σ τ' → τ'.1 6 = τ.1 6 → τ'.1 7 = τ.1 7 → τ'.2 3 = τ.2 3 → (∀ i, i ≠ (LbE E1).length → τ'.2 6 i = τ.2 6 i) → τ'.2 6 (LbE E1).length = (if e.1 = 2 then e.2.2.2.2.1 else nI (offS (lay (0, 0) E1) e.2.2.2.1)) → RR (M_layout_47 N (M_layout_14 N n) m' (nI (LbE E1).length + 1) (nI (StE E1).length) (nI (nxtS r)) τ') (fun _ σ' => LyI σ E σ') := by
        intro τ' t1 t2 t3 t4 t5 t6
        have := ih (E1 ++ [e]) m' n τ' hE' ⟨t1, by rw [t2, elay, hstep]; exact I2, by rw [t3, elay, hstep]; exact I3, ?_, ?_, ?_⟩ (by omega) (by rw [← hsr]; exact hn)
        · rw [hlb', hst'] at this
          rw [nI_1]
          exact this
        · rw [hlb', elbs]
          intro i hi
          by_cases hi2 : i = (LbE E1).length
          · rw [hi2, t6, ← lbl, getD_mid]
          · rw [t5 i hi2, gD_l (by omega)]
            exact I4 i (by omega)
        · rw [hlb']
          intro i hi
          rw [t5 i (by omega)]
          exact I5 i (by omega)
        · rw [hst', eofs, t4]
          exact I6
      have put : ∀ v : Int32, (v = if e.1 = 2 then e.2.2.2.2.1 else nI (offS (lay (0, 0) E1) e.2.2.2.1)) → RR (M_layout_114 N (M_layout_14 N n) (M_layout_47 N (M_layout_14 N n) m') (nI (LbE E1).length) (nI (StE E1).length) (nI (nxtS r)) (nI (LbE E1).length) v τ) (fun _ σ' => LyI σ E σ') := by
        intro v hv
        unfold M_layout_114 M_layout_115
        refine RR_gd l2060 (RR_bnd ?_)
        rw [nI_clamp (by omega)]
        refine nx _ (I1.tr ⟨fun _ _ _ => rfl, fun k h1 h2 => sA_ne h2⟩) rfl rfl (sA_ne (by decide)) (fun i hi => by rw [sA_eq, pk_un hi]) (by rw [sA_eq, pk_us, hv])
      show RR (if nI e.1 = 2 then _ else _) _
      by_cases c2 : e.1 = 2
      · refine RR_y (by rw [c2]; rfl) ?_
        unfold M_layout_115
        refine nx τ I1 rfl rfl rfl (fun _ _ => rfl) ?_
        rw [if_pos c2, I5 _ (Nat.le_refl _)]
        exact g4 c2
      · refine RR_n (by rw [show (2 : Int32) = nI 2 from rfl, nI_eq (by omega) (by omega)]; exact c2) ?_
        have ksec := kd3 c2 h5
        have p7 : e.1 = 1 ∨ e.1 = 4 → RR (M_layout_103 N (M_layout_14 N n) (M_layout_47 N (M_layout_14 N n) m') (nI (LbE E1).length) (nI (StE E1).length) (nI (nxtS r)) (nI (LbE E1).length) τ) (fun _ σ' => LyI σ E σ') := by
          intro hz
          unfold M_layout_103
          refine put _ ?_
          rw [if_neg c2, I3]
          unfold offS
          rw [if_pos (ksec.mp hz)]
        by_cases c1 : e.1 = 1
        · exact RR_y (by rw [c1]; rfl) (p7 (Or.inl c1))
        · refine RR_n (by rw [show (1 : Int32) = nI 1 from rfl, nI_eq (by omega) (by omega)]; exact c1) ?_
          by_cases c4 : e.1 = 4
          · exact RR_y (by rw [c4]; rfl) (p7 (Or.inr c4))
          · refine RR_n (by rw [show (4 : Int32) = nI 4 from rfl, nI_eq (by omega) (by omega)]; exact c4) (put _ ?_)
            rw [if_neg c2, I2]
            unfold offS
            rw [if_neg (fun z => by have := ksec.mpr z; omega)]
/-- what layout() leaves -/
def LayP (X : List Int32) (σ : MS) (E : List Ev) (τ : MS) : Prop := FLy σ τ ∧ τ.1 6 = nI (lay (0, 0) E).1 ∧ τ.1 7 = nI (lay (0, 0) E).2 ∧ LBs X τ (lbS (0, 0) E) ∧ ∀ i, i < (StE E).length → τ.2 3 i = nI ((ofS (0, 0) E).getD i 0)
theorem lbS_at : ∀ (E : List Ev) (s : Sz) (i : Nat), i < (LbE E).length → ((lbS s E).getD i lb0).1 = ((LbE E).getD i lb0).1 ∧ ((lbS s E).getD i lb0).2.1 = ((LbE E).getD i lb0).2.1 ∧ (((LbE E).getD i lb0).2.1 = 2 → ((lbS s E).getD i lb0).2.2 = ((LbE E).getD i lb0).2.2)
  | [], s, i, h => absurd h (Nat.not_lt_zero _)
  | e :: E, s, i, h => by
    rw [LbE_cons] at h ⊢
    show ((_ ++ lbS (stepE s e) E).getD i lb0).1 = _ ∧ ((_ ++ lbS (stepE s e) E).getD i lb0).2.1 = _ ∧ (_ → ((_ ++ lbS (stepE s e) E).getD i lb0).2.2 = _)
    by_cases hk : e.1 < 5
    · rw [if_pos hk, if_pos hk] at *
      match i with
      | 0 =>
        refine ⟨rfl, rfl, fun z => ?_⟩
        show (if e.1 = 2 then e.2.2.2.2.1 else _) = e.2.2.2.2.1
        rw [if_pos (show e.1 = 2 from z)]
      | i + 1 => exact lbS_at E (stepE s e) i (by simp at h; omega)
    · rw [if_neg hk, if_neg hk] at *
      exact lbS_at E (stepE s e) i h
theorem M_layout_eq (hN : 4200 < N) (hX : X.length ≤ 4096) (hW : WfE X E) (hL : LBk X σ (LbE E)) (h4 : σ.1 4 = nI (StE E).length) (hSn : (StE E).length ≤ 1025) (hS : ∀ i, i < (StE E).length → StQ σ i ((StE E).getD i ev0)) : RR (M_layout N σ) (fun _ σ' => LayP X σ E σ') := by
  have hSI := WfE_SI hX hW
  unfold M_layout
  refine RR_bnd (RR_bnd ?_)
  obtain ⟨N', rfl⟩ : ∃ N', N = N' + 1 := ⟨N - 1, by omega⟩
  have F0 : FLy σ (sF (sF σ 6 0) 7 0) := ⟨fun j h1 h2 => by rw [sF_ne _ _ h2, sF_ne _ _ h1], fun _ _ _ => rfl⟩
  have hI : LyI σ [] (sF (sF σ 6 0) 7 0) := ⟨F0, rfl, rfl, fun i hi => absurd hi (Nat.not_lt_zero _), fun _ _ => rfl, fun i hi => absurd hi (Nat.not_lt_zero _)⟩
  have go := lay_loop hN hX hW hL h4 hSn hS E [] (N' + 1) N' _ rfl hI (by have := hL.2.1; omega) (by omega)
  have e4' : (sF (sF σ 6 0) 7 0).1 4 = nI (StE E).length := h4
  have fin : RR (M_layout_47 (N' + 1) (M_layout_14 (N' + 1) N') (N' + 1) 0 0 (nI (nxtS E)) (sF (sF σ 6 0) 7 0)) (fun _ σ' => LayP X σ E σ') := by
    refine RR_imp go (fun _ τ h => ?_)
    obtain ⟨I1, I2, I3, I4, I5, I6⟩ := h
    refine ⟨I1, I2, I3, ⟨?_, ?_, fun i hi => ?_⟩, I6⟩
    · rw [lbS_len, I1.1 5 (by decide) (by decide)]; exact hL.1
    · rw [lbS_len]; exact hL.2.1
    · rw [lbS_len] at hi
      obtain ⟨g1, g2, g3, g4⟩ := hL.2.2 i hi
      obtain ⟨a1, a2, a3⟩ := lbS_at E (0, 0) i hi
      rw [a1, a2]
      exact ⟨g1, g2, by rw [I1.2 5 (by decide) (by decide)]; exact g3, I4 i hi⟩
  rw [M_layout_14]
  show RR (if (sF (sF σ 6 0) 7 0).1 4 < 0 then _ else _) _
  rw [e4']
  refine RR_n (nI_pos (by omega)) ?_
  rw [nxtS_eq] at fin
  by_cases h0 : (StE E).length = 0
  · rw [if_pos h0] at fin
    refine RR_y (by rw [h0]; decide) ?_
    unfold M_layout_46
    exact fin
  · rw [if_neg h0] at fin
    refine RR_n (by rw [show (0 : Int32) = nI 0 from rfl, nI_leI (by omega) (by omega)]; omega) (RR_gd (by decide) ?_)
    unfold M_layout_46
    have hq2 := hS 0 (by omega)
    have hmem : (StE E).getD 0 ev0 ∈ StE E := by rw [gD_e (by omega)]; exact List.getElem_mem _
    have hm2 := (List.mem_filter.mp hmem).1
    have hk5 : ((StE E).getD 0 ev0).1 = 5 := by
      have := (List.mem_filter.mp hmem).2
      simpa using this
    obtain ⟨A, B, hAB⟩ := List.append_of_mem hm2
    have hw2 := hW A _ B hAB
    obtain ⟨l1, l2, l3⟩ := SIt_lev ((hSI _ hm2).1 hk5)
    show RR (M_layout_47 _ _ _ 0 0 (σ.2 2 0 &&& 8191) _) _
    rw [hq2.1, pl_start (by have := hw2.2.1; omega) l1 hw2.2.2.1 l2]
    exact fin
end
