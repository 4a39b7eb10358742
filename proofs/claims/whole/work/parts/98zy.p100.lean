/-! ===== the class begins anew: program, steps, names ===== -/
section
variable {N : Nat} {sF sP sI sN sT : CS} {x y : Nat}
theorem C_empty35 (hN : 70000 < N) {l : List Int32} : ∀ (n d m : Nat) (sP sI : CS), d + n = 10 → n < m → RowL (rg sP 0) l → sP.1 0 = 0 → sP.1 1 = nI d → sP.1 5 = 0 → sP.2.2 20 = 10 → (∀ i, i < d → sP.2.1 20 i = nI i) → LOk sI d → (∀ i, i < d → PlI sI i 0 (-1)) →
    RC (tp sF sP sI x y) (C_Prg_empty_35 N m (nI d) sP sI) (fun _ u c => c = tp sF u.1 u.2 x y ∧ RowL (rg u.1 0) l ∧ u.1.1 0 = 0 ∧ u.1.1 1 = nI 10 ∧ u.1.1 5 = 0 ∧ u.1.2.2 20 = 10 ∧ (∀ i, i < 10 → u.1.2.1 20 i = nI i) ∧ LOk u.2 10 ∧ ∀ i, i < 10 → PlI u.2 i 0 (-1)) := by
  intro n
  induction n with
  | zero =>
    intro d m sP sI hd hm h1 h2 h3 h4 h5 h6 h7 h8
    obtain ⟨m', rfl⟩ : ∃ m', m = m' + 1 := ⟨m - 1, by omega⟩
    have hd10 : d = 10 := by omega
    rw [C_Prg_empty_35]
    rw [hd10] at h3 h6 h7 h8 ⊢
    exact RC_y (by rw [h5]; exact Int32.le_refl _) (RC_ret ⟨rfl, h1, h2, h3, h4, h5, h6, h7, h8⟩)
  | succ n ih =>
    intro d m sP sI hd hm h1 h2 h3 h4 h5 h6 h7 h8
    obtain ⟨m', rfl⟩ : ∃ m', m = m' + 1 := ⟨m - 1, by omega⟩
    rw [C_Prg_empty_35]
    refine RC_n ?_ (RC_gd (by rw [h5]; exact inB_nI (by omega) (by decide)) (RC_bnd ?_))
    · rw [h5]; exact fun z => absurd ((nI_leI (by omega) (by omega)).mp z) (by omega)
    rw [nI_clamp (by omega), h3, tp_i]
    have h5' : (cA sP 20 d (nI d)).1 5 = 0 := h4
    refine RC_then (RC_padd (sP := cA sP 20 d (nI d)) h3 h7 (by omega) (by rw [h5']; rfl) 1 (-1) 0 _ _) (fun r w c hw => ?_)
    obtain ⟨w1, w2⟩ := w
    obtain ⟨rfl, e1, e2, e3, e4, e5⟩ := hw
    simp only [] at e1 e2 e3 e4 e5 ⊢
    rw [e3, show nI d + 1 = nI (d + 1) from nI_add d 1]
    have et : ip w2 (2 * capF sF + 2 * sP.2.2 0 + x) (capF sF + sP.2.2 0 + y) = tp sF w1 w2 x y := by rw [tp_i, e1]; rfl
    rw [et]
    refine ih (d + 1) m' w1 w2 (by omega) (by omega) ?_ ?_ ?_ ?_ ?_ ?_ e2 ?_
    · rw [e1, rg_cF (by decide), rg_cA (by decide)]; exact h1
    · rw [e1]; exact h2
    · rw [e1, cF_at]
    · rw [e1]; exact h4
    · rw [e1]; exact h5
    · intro i hi
      rw [e1]
      show (cA sP 20 d (nI d)).2.1 20 i = nI i
      by_cases hid : i = d
      · rw [hid, cA_at]
      · rw [cA_f _ _ hid]; exact h6 i (by omega)
    · intro i hi
      by_cases hid : i = d
      · rw [hid]
        unfold PlI
        rw [e5 1 (by omega), e5 2 (by omega), e5 3 (by omega), e5 4 (by omega)]
        exact ⟨h4, rfl, rfl, rfl⟩
      · exact (h8 i (by omega)).same (e4 _ (by omega))
theorem C_empty (hN : 70000 < N) {l : List Int32} (h1 : RowL (rg sP 0) l) (h5 : sP.2.2 20 = 10) (h7 : LOk sI 0) : RC (tp sF sP sI x y) (C_Prg_empty N sP sI) (fun _ u c => c = tp sF u.1 u.2 x y ∧ RowL (rg u.1 0) [] ∧ u.1.1 0 = 0 ∧ u.1.1 1 = nI 10 ∧ u.1.1 5 = 0 ∧ u.1.2.2 20 = 10 ∧ (∀ i, i < 10 → u.1.2.1 20 i = nI i) ∧ LOk u.2 10 ∧ ∀ i, i < 10 → PlI u.2 i 0 (-1)) := by
  unfold C_Prg_empty
  obtain ⟨u, q1, q2, q3⟩ := C_Row_cut_eq h1 0 (by omega)
  rw [List.take_zero] at q2
  refine RC_cl q1 (RC_bnd (RC_bnd (RC_bnd (RC_bnd (RC_bnd (RC_bnd ?_))))))
  have et : tp sF sP sI x y = tp sF (cF (cF (cF (cF (cF (rs sP 0 u) 0 0) 1 0) 4 0) 5 0) 6 0) sI x y := by
    have : (rs sP 0 u).2.2 = sP.2.2 := rs_caps q3
    rw [tp_i, tp_i]
    show _ = ip sI (2 * capF sF + 2 * (rs sP 0 u).2.2 0 + x) (capF sF + (rs sP 0 u).2.2 0 + y)
    rw [this]
  rw [et]
  refine C_empty35 hN 10 0 N _ sI (by omega) (by omega) ?_ rfl rfl rfl ?_ (fun i hi => absurd hi (Nat.not_lt_zero _)) h7 (fun i hi => absurd hi (Nat.not_lt_zero _))
  · rw [rg_cF (by decide), rg_cF (by decide), rg_cF (by decide), rg_cF (by decide), rg_cF (by decide)]
    exact RowL_rs q2
  · show (rs sP 0 u).2.2 20 = 10
    rw [rs_caps q3]; exact h5
theorem C_fempty {K V S Z : List Int32} (h : FR4 sF K V S Z) : ∃ sF', C_Frm_empty sF sN sT sP sI = some (0, sF') ∧ FR4 sF' [] [] S Z ∧ capF sF' = capF sF := by
  obtain ⟨f0, f1, f2, f3⟩ := h
  obtain ⟨u0, p1, p2, p3⟩ := C_Row_cut_eq f0 0 (by omega)
  have f1' : RowL (rg (rs sF 0 u0) 1) V := by rw [rg_rs (by decide)]; exact f1
  obtain ⟨u1, q1, q2, q3⟩ := C_Row_cut_eq f1' 0 (by omega)
  rw [List.take_zero] at p2 q2
  refine ⟨rs (rs sF 0 u0) 1 u1, ?_, ⟨?_, RowL_rs q2, ?_, ?_⟩, ?_⟩
  · unfold C_Frm_empty C_Frm_dropFrom
    rw [show (0 : Int32) = nI 0 from rfl, p1]
    simp only [cl, bnd, Option.bind_some]
    rw [q1]
    rfl
  · rw [rg_rs (by decide)]; exact RowL_rs p2
  · rw [rg_rs (by decide), rg_rs (by decide)]; exact f2
  · rw [rg_rs (by decide), rg_rs (by decide)]; exact f3
  · have e : (rs (rs sF 0 u0) 1 u1).2.2 = sF.2.2 := by rw [rs_caps q3, rs_caps p3]
    unfold capF
    rw [e]
end
/-- names that stay -/
theorem nm_pre (ns : List (List Int32)) : ∀ (n : Nat) (ms : List (List Int32)), ms.length = n → (∃ r, olderL (ns ++ ms) = olderL ns ++ r) ∧ (∃ r, slotsL (ns ++ ms) = slotsL ns ++ r) ∧ (∃ r, startsL (ns ++ ms) = startsL ns ++ r) ∧ ∀ s m, m ≤ ns.length → lastIx (ns ++ ms) s m = lastIx ns s m := by
  intro n
  induction n with
  | zero =>
    intro ms h
    rw [List.length_eq_zero_iff.mp h, List.append_nil]
    exact ⟨⟨[], by rw [List.append_nil]⟩, ⟨[], by rw [List.append_nil]⟩, ⟨[], by rw [List.append_nil]⟩, fun _ _ _ => rfl⟩
  | succ n ih =>
    intro ms h
    rcases List.eq_nil_or_concat ms with rfl | ⟨A, p, rfl⟩
    · simp at h
    · rw [List.concat_eq_append] at h ⊢
      obtain ⟨⟨r1, e1⟩, ⟨r2, e2⟩, ⟨r3, e3⟩, e4⟩ := ih A (by simp at h; exact h)
      rw [← List.append_assoc, olderL_app, slotsL_app, startsL_app, e1, e2, e3]
      refine ⟨⟨_, List.append_assoc _ _ _⟩, ⟨_, List.append_assoc _ _ _⟩, ⟨_, List.append_assoc _ _ _⟩, fun s m hm => ?_⟩
      rw [lastIx_app _ _ _ _ (by rw [List.length_append]; omega), e4 s m hm]
theorem olderL_len (ns : List (List Int32)) : (olderL ns).length = ns.length := by unfold olderL; rw [List.length_map, List.length_range]
theorem slotsL_len (ns : List (List Int32)) : (slotsL ns).length = ns.length := by unfold slotsL; rw [List.length_map]
theorem startsL_len (ns : List (List Int32)) : (startsL ns).length = ns.length + 1 := by unfold startsL; rw [List.length_map, List.length_range]
theorem C_forget10 {N : Nat} {ns : List (List Int32)} {n0 : Nat} {op re od : List Int32} (hn0 : n0 ≤ ns.length) (hns : ns.length ≤ 140000) : ∀ (n m : Nat) (so va : List Int32) (sN : CS), n ≤ ns.length → n0 ≤ n → n - n0 < m → RowL (rg sN 0) so → RowL (rg sN 1) va → RowL (rg sN 5) (olderL ns) → RowL (rg sN 6) (slotsL ns) → sN.1 4 = nI n0 → sN.2.2 20 = 512 → (∀ s, s < 512 → sN.2.1 20 s = nI (lastIx ns s n)) →
    ∃ sN1, C_Nam_forget_10 N m (nI n - 1) sN = C_Nam_forget_10 N (m - (n - n0)) (nI n0 - 1) sN1 ∧ (∀ s, s < 512 → sN1.2.1 20 s = nI (lastIx ns s n0)) ∧ sN1.1 = sN.1 ∧ sN1.2.2 = sN.2.2 ∧ ∀ q, q ≠ 20 → sN1.2.1 q = sN.2.1 q := by
  intro n
  induction n with
  | zero =>
    intro m so va sN h1 h2 h3 r0 r1 r5 r6 h4 h20 hh
    have : n0 = 0 := by omega
    subst this
    exact ⟨sN, rfl, hh, rfl, rfl, fun _ _ => rfl⟩
  | succ n ih =>
    intro m so va sN h1 h2 h3 r0 r1 r5 r6 h4 h20 hh
    by_cases he : n0 = n + 1
    · rw [← he] at hh ⊢
      rw [Nat.sub_self, Nat.sub_zero]
      exact ⟨sN, rfl, hh, rfl, rfl, fun _ _ => rfl⟩
    · obtain ⟨m', rfl⟩ : ∃ m', m = m' + 1 := ⟨m - 1, by omega⟩
      have hx : nI (n + 1) - 1 = nI n := pk_sub (a := n + 1) (b := 1) (by omega)
      rw [hx]
      have hslot : C_Row_get (nI n) (rg sN 6) = some (nI (slotOf (ns.getD n []))) := by
        rw [C_get r6 (by omega), gD_e (by rw [slotsL_len]; omega)]
        unfold slotsL
        rw [List.getElem_map, gD_e (by omega)]
      have hold : C_Row_get (nI n) (rg sN 5) = some (nI (lastIx ns (slotOf (ns.getD n [])) n)) := by
        rw [C_get r5 (by omega), gD_e (by rw [olderL_len]; omega)]
        unfold olderL
        rw [List.getElem_map, List.getElem_range]
      have hs512 : slotOf (ns.getD n []) < 512 := slotOf_lt _
      have hstep : C_Nam_forget_10 N (m' + 1) (nI n) sN = C_Nam_forget_10 N m' (nI n + -1) (cA sN 20 (slotOf (ns.getD n [])) (nI (lastIx ns (slotOf (ns.getD n [])) n))) := by
        simp only [C_Nam_forget_10]
        rw [h4, if_neg (fun z => absurd ((nI_ltI (by omega) (by omega)).mp z) (by omega)), hslot]
        simp only [cr, Option.bind_some]
        rw [if_neg (nI_pos (by omega)), h20, if_neg (fun z => absurd ((nI_leI (by omega) (by omega)).mp z) (by omega)), hold]
        simp only [Option.bind_some]
        rw [gd_t (inB_nI hs512 (by decide)), nI_clamp (by omega)]
        rfl
      rw [hstep, show nI n + -1 = nI n - 1 from (Int32.sub_eq_add_neg ..).symm]
      obtain ⟨sN1, k1, k2, k3, k4, k5⟩ := ih m' so va (cA sN 20 (slotOf (ns.getD n [])) (nI (lastIx ns (slotOf (ns.getD n [])) n))) (by omega) (by omega) (by omega) (by rw [rg_cA (by decide)]; exact r0) (by rw [rg_cA (by decide)]; exact r1) (by rw [rg_cA (by decide)]; exact r5) (by rw [rg_cA (by decide)]; exact r6) h4 h20 (fun s hs => by
        by_cases hsl : s = slotOf (ns.getD n [])
        · rw [hsl, cA_at]
        · rw [cA_f _ _ hsl, hh s hs, lastIx, if_neg (fun z => hsl z.symm)])
      refine ⟨sN1, ?_, k2, k3, k4, fun q hq => ?_⟩
      · rw [k1]; congr 1; omega
      · rw [k5 q hq, cA_o _ _ hq]
