/-! ===== readAll(), whole ===== -/
theorem gD_l {α : Type} {A B : List α} {d : α} {i : Nat} (h : i < A.length) : (A ++ B).getD i d = A.getD i d := by
  rw [List.getD_eq_getElem?_getD, List.getD_eq_getElem?_getD, List.getElem?_append_left h]
theorem gD_r {α : Type} {A B : List α} {d : α} {i : Nat} (h : A.length ≤ i) : (A ++ B).getD i d = B.getD (i - A.length) d := by
  rw [List.getD_eq_getElem?_getD, List.getD_eq_getElem?_getD, List.getElem?_append_right h]
theorem gD_e {α : Type} {A : List α} {d : α} {i : Nat} (h : i < A.length) : A.getD i d = A[i] := by
  rw [List.getD_eq_getElem?_getD, List.getElem?_eq_getElem h]
  rfl
theorem gD_o {α : Type} {A : List α} {d : α} {i : Nat} (h : A.length ≤ i) : A.getD i d = d := by
  rw [List.getD_eq_getElem?_getD, List.getElem?_eq_none h]
  rfl
theorem rdLab_suf (X : List Int32) (sec ln : Nat) (hsec : sec < 2) : ∀ (n : Nat) (ts : List AT) (E : List Ev), (rdLab X sec ln n ts E).1 = 0 → StE (rdLab X sec ln n ts E).2.2.2 = StE E ∧ (∀ a, (rdLab X sec ln n ts E).2.1 = some a → Suf (a :: (rdLab X sec ln n ts E).2.2.1) ts 0) ∧ ((rdLab X sec ln n ts E).2.1 = none → Suf (rdLab X sec ln n ts E).2.2.1 ts 0)
  | 0, ts, E, h => absurd (show (1 : Nat) = 0 from h) (by decide)
  | n + 1, [], E, h => absurd (show (1 : Nat) = 0 from h) (by decide)
  | n + 1, a :: r, E, h => by
    by_cases k0 : a.k = 0
    · rw [rdLab_0 X sec ln n E k0]
      exact ⟨rfl, fun b z => (by cases z), fun _ => Suf.rf _⟩
    by_cases k24 : a.k = 2 ∨ a.k = 4
    · have n1 : a.k ≠ 1 := by rcases k24 with z | z <;> rw [z] <;> decide
      match r, h with
      | [], h =>
        exfalso
        rw [rdLab] at h
        have h' : (if a.k = 0 then ((0 : Nat), (none : Option AT), [a], E) else if a.k = 2 ∨ a.k = 4 then (1, none, [], E) else (1, none, [], E)).1 = 0 := h
        rw [if_neg k0, if_pos k24] at h'
        exact absurd (show (1 : Nat) = 0 from h') (by decide)
      | b :: r2, h =>
        rw [rdLab_c X sec ln n E k0 k24] at h ⊢
        by_cases c58 : b.k = 58
        · rw [if_pos c58] at h ⊢
          by_cases ct : a.k = 2 ∧ tkA X (LbE E) a.nm = true
          · rw [if_pos ct] at h
            exact absurd (show (4 : Nat) = 0 from h) (by decide)
          · rw [if_neg ct] at h ⊢
            obtain ⟨i1, i2, i3⟩ := rdLab_suf X sec ln hsec n r2 _ h
            have hsuf : Suf r2 (a :: b :: r2) 0 := ((Suf.c1 (a := b) (r := r2) (by rw [c58]; decide) (by rw [c58]; decide)).tr (Suf.c1 (a := a) (r := b :: r2) k0 n1)).le (by omega)
            refine ⟨?_, fun x hx => (i2 x hx).tr hsuf, fun hx => (i3 hx).tr hsuf⟩
            rw [i1, StE_snoc, if_neg, List.append_nil]
            show ¬ sec + (if a.k = 4 then 3 else 0) = 5
            split <;> omega
        · rw [if_neg c58] at h ⊢
          by_cases c4 : a.k = 4
          · rw [if_pos c4] at h
            exact absurd (show (1 : Nat) = 0 from h) (by decide)
          · rw [if_neg c4]
            refine ⟨rfl, fun x hx => ?_, fun z => (by cases z)⟩
            cases hx
            exact Suf.rf _
    · rw [rdLab_bad X sec ln n E k0 k24] at h
      exact absurd (show (1 : Nat) = 0 from h) (by decide)
theorem rdLab_le (X : List Int32) (sec ln : Nat) : ∀ (n : Nat) (ts : List AT) (E : List Ev), (rdLab X sec ln n ts E).1 ≤ 15
  | 0, ts, E => by show 1 ≤ 15; omega
  | n + 1, [], E => by show 1 ≤ 15; omega
  | n + 1, a :: r, E => by
    by_cases k0 : a.k = 0
    · rw [rdLab_0 X sec ln n E k0]; show 0 ≤ 15; omega
    by_cases k24 : a.k = 2 ∨ a.k = 4
    · match r with
      | [] =>
        rw [rdLab]
        show (if a.k = 0 then ((0 : Nat), (none : Option AT), [a], E) else if a.k = 2 ∨ a.k = 4 then (1, none, [], E) else (1, none, [], E)).1 ≤ 15
        rw [if_neg k0, if_pos k24]
        show 1 ≤ 15
        omega
      | b :: r2 =>
        rw [rdLab_c X sec ln n E k0 k24]
        by_cases c58 : b.k = 58
        · rw [if_pos c58]
          by_cases ct : a.k = 2 ∧ tkA X (LbE E) a.nm = true
          · rw [if_pos ct]; show 4 ≤ 15; omega
          · rw [if_neg ct]; exact rdLab_le X sec ln n r2 _
        · rw [if_neg c58]
          split
          · show 1 ≤ 15; omega
          · show 0 ≤ 15; omega
    · rw [rdLab_bad X sec ln n E k0 k24]; show 1 ≤ 15; omega
theorem Suf.len {a b : List AT} {k : Nat} (h : Suf a b k) : a.length + k ≤ b.length := by
  obtain ⟨pre, e, h1, -⟩ := h
  rw [e, List.length_append]
  omega
theorem Srt.head {q : Nat} {a : AT} {r : List AT} (h : Srt q (a :: r)) : q ≤ a.p := h.1
/-- the line's end, seen from where the tokens are read -/
theorem end_p {X : List Int32} {q : Nat} {a : AT} {r : List AT} (hl : lexS X q = a :: r) (hk : a.k = 0) (hq : q ≤ X.length) : a.p = lend (tw X) X.length q := by
  have hl2 : lexS X (skipB (tw X) X.length q) = a :: r := by rw [← lexS_skip]; exact hl
  obtain ⟨n1, n2, n3⟩ := end_nl hl2 hk (skipB_id _ _ _).symm (skipB_le _ _ _ hq)
  rw [lend_skip] at n3
  exact n3
theorem bsC_k {η : Int32 → AT → Int32 × Bool} {lo : AT → Bool} {tk : List Int32 → Bool} (σ0 : MS) (cur start sec : Nat) (o : OD) (ts : List AT) : KF σ0 (bsC η lo tk σ0 cur start sec o ts) ∧ (bsC η lo tk σ0 cur start sec o ts).1 18 = σ0.1 18 := by
  unfold bsC
  split
  · exact ⟨⟨rfl, rfl, rfl, rfl, rfl⟩, rfl⟩
  split
  · exact ⟨⟨rfl, rfl, rfl, rfl, rfl⟩, rfl⟩
  split
  · exact ⟨KF.rf _, rfl⟩
  split
  · exact ⟨KF.rf _, rfl⟩
  split
  · exact ⟨KF.rf _, rfl⟩
  split
  · exact ⟨⟨rfl, rfl, rfl, rfl, rfl⟩, rfl⟩
  split
  · exact ⟨KF.rf _, rfl⟩
  split
  · exact ⟨⟨rfl, rfl, rfl, rfl, rfl⟩, rfl⟩
  · exact ⟨KF.rf _, rfl⟩
section
variable {N : Nat} {X : List Int32} {σA : MS}
theorem FTt.same {F : Int32} {σ σ' : MS} (h : FTt X σA F σ) (hk : KF σ σ') (h9 : σ'.1 9 = σ.1 9) (h14 : σ'.1 14 = σ.1 14) : FTt X σA F σ' := ⟨h.1.tr hk, h.2.1.eq h9, h14.trans h.2.2⟩
theorem F_118 {m : Nat} (hN : 4200 < N) (T0 : TX σA (tw X) X.length) {F : Int32} {σ : MS} (hF : F ≠ 0) (h : FTt X σA F σ) {t0 : Int32} (ht : t0 < 0 ∨ inB t0 1030 = true) : RR (M_readAll_118 N (M_readAll_25 N (m + 1)) t0 σ) (fun _ σ' => KF σA σ' ∧ σ'.1 14 = F) := by
  unfold M_readAll_118
  refine RR_if (fun _ => F_152 hN T0 hF h) (fun hn => ?_)
  have hb : inB t0 1030 = true := ht.resolve_left hn
  refine RR_bnd (RR_gd hb (RR_if (fun _ => RR_gd hb (RR_bnd ?_)) (fun _ => ?_)))
  · exact F_152 hN T0 hF (h.same ⟨rfl, rfl, rfl, rfl, rfl⟩ rfl rfl)
  · exact F_152 hN T0 hF (h.same ⟨rfl, rfl, rfl, rfl, rfl⟩ rfl rfl)
theorem evS_lb (E : List Ev) (sec ln : Nat) (a : AT) (o : OD) (b : BR) (e : Nat × AT × Int32 × List AT) : LbE (E ++ (evS sec ln a o b e).1) = LbE E ++ (if o.1 = 3 then [(e.2.1.p, 2, e.2.2.1)] else []) := by
  unfold evS
  by_cases c1 : o.1 = 1 ∨ o.1 = 2
  · rw [if_pos c1, if_neg (show ¬ o.1 = 3 by rcases c1 with z | z <;> rw [z] <;> decide)]
    show LbE (E ++ if (if o.1 = 2 then 1 else 0) = sec then [(5, a.p, ln, sec, 0, [])] else []) = _
    by_cases hs2 : (if o.1 = 2 then 1 else 0) = sec
    · rw [if_pos hs2, LbE_snoc, if_neg (show ¬ (5 < 5) by omega)]
    · rw [if_neg hs2, List.append_nil, List.append_nil]
  · rw [if_neg c1]
    by_cases c3 : o.1 = 3
    · rw [if_pos c3, if_pos c3]
      show LbE (E ++ ([(5, a.p, ln, sec, 0, [])] ++ [(2, e.2.1.p, ln, sec, e.2.2.1, [])])) = _
      rw [← List.append_assoc, LbE_snoc, if_pos (show 2 < 5 by omega), LbE_snoc, if_neg (show ¬ (5 < 5) by omega), List.append_nil]
    · rw [if_neg c3, if_neg c3]
      show LbE (E ++ [(5, a.p, ln, sec, 0, b.2.1)]) = _
      rw [LbE_snoc, if_neg (show ¬ (5 < 5) by omega)]
/-- does a statement count? -/
def cnt (sec : Nat) (o : OD) : Bool := !(decide (o.1 = 1 ∨ o.1 = 2)) || decide ((if o.1 = 2 then 1 else 0) = sec)
theorem evS_st (E : List Ev) (sec ln : Nat) (a : AT) (o : OD) (b : BR) (e : Nat × AT × Int32 × List AT) (hb : o.1 = 1 ∨ o.1 = 2 ∨ o.1 = 3 → b.2.1 = []) : StE (E ++ (evS sec ln a o b e).1) = StE E ++ (if cnt sec o = true then [(5, a.p, ln, sec, 0, b.2.1)] else []) := by
  unfold evS cnt
  by_cases c1 : o.1 = 1 ∨ o.1 = 2
  · rw [if_pos c1, hb (by rcases c1 with z | z <;> simp [z])]
    simp only [c1, decide_true, Bool.not_true, Bool.false_or, decide_eq_true_eq]
    show StE (E ++ if (if o.1 = 2 then 1 else 0) = sec then [(5, a.p, ln, sec, 0, [])] else []) = _
    by_cases hs2 : (if o.1 = 2 then 1 else 0) = sec
    · rw [if_pos hs2, StE_snoc, if_pos rfl]
    · rw [if_neg hs2, List.append_nil, List.append_nil]
  · rw [if_neg c1]
    simp only [c1, decide_false, Bool.not_false, Bool.true_or, if_true]
    by_cases c3 : o.1 = 3
    · rw [if_pos c3, hb (Or.inr (Or.inr c3))]
      show StE (E ++ ([(5, a.p, ln, sec, 0, [])] ++ [(2, e.2.1.p, ln, sec, e.2.2.1, [])])) = _
      rw [← List.append_assoc, StE_snoc, if_neg (show ¬ (2 = 5) by omega), StE_snoc, if_pos rfl, List.append_nil]
    · rw [if_neg c3]
      show StE (E ++ [(5, a.p, ln, sec, 0, b.2.1)]) = _
      rw [StE_snoc, if_pos rfl]
theorem evS_sec (sec ln : Nat) (a : AT) (o : OD) (b : BR) (e : Nat × AT × Int32 × List AT) : (evS sec ln a o b e).2 = (if o.1 = 1 then 0 else if o.1 = 2 then 1 else sec) := by
  unfold evS
  by_cases c1 : o.1 = 1
  · rw [if_pos (Or.inl c1), if_pos c1]
    show (if o.1 = 2 then 1 else 0) = 0
    rw [if_neg (by rw [c1]; decide)]
  · by_cases c2 : o.1 = 2
    · rw [if_pos (Or.inr c2), if_neg c1]
      show (if o.1 = 2 then 1 else 0) = _
      rw [if_pos c2, if_pos c2]
    · rw [if_neg (by simp [c1, c2]), if_neg c1, if_neg c2]
      split <;> rfl
theorem stm_123 (η : Int32 → AT → Int32 × Bool) (lo : AT → Bool) (tk : List Int32 → Bool) (o : OD) (ts : List AT) (h : o.1 = 1 ∨ o.1 = 2 ∨ o.1 = 3) : (stm η lo tk o ts).2.1 = [] := by
  unfold stm
  rcases h with z | z | z
  · rw [if_pos (Or.inl z)]
  · rw [if_pos (Or.inr z)]
  · rw [if_neg (by rw [z]; decide), if_pos z]
theorem fnF_0 {b : BR} (h : fnF b = 0) : b.1 = 0 ∧ atE b.2.2 = true := by
  unfold fnF at h
  split at h
  · rename_i hn; exact absurd h hn
  · rename_i hn
    split at h
    · rename_i he; exact ⟨Decidable.not_not.mp hn, he⟩
    · cases h
theorem fnF_le (b : BR) (h : b.1 ≤ 15) : fnF b ≤ 15 := by
  unfold fnF
  split
  · exact h
  · split <;> omega
set_option maxHeartbeats 1000000 in
/-- a statement that was read, and on to the next line -/
theorem R_go (hN : 4200 < N) (T0 : TX σA (tw X) X.length) {E0 E : List Ev} {sec ln m n : Nat} {a : AT} {r : List AT} {σ : MS} (hR : RSt X σA E sec ln a.p σ) (hl : lexS X a.p = a :: r) (hk : a.k = 2) (hS4 : 4 * (StE E).length ≤ a.p) (hln : ln + r.length ≤ 4200)
    (ih : ∀ (rest : List AT) (E2 : List Ev) (sec2 q : Nat) (σ : MS), rest.length < r.length → lexS X q = rest → RSt X σA E2 sec2 (ln + 1) q σ → 4 * (StE E2).length ≤ q → RR (M_readAll_25 N (m + 1) σ) (fun _ σ' => RAP X σA (rdAll X n rest sec2 (ln + 1) E2) σ'))
    (hE : 0 < (rdSt X sec ln a r E).1 ∨ (rdSt X sec ln a r E).1 = 0) :
    RR (bnd (sF σ 18 (σ.1 4)) (fun σ3 => gd (inB (σ3.1 18) 1030) (bnd (sA σ3 2 (σ3.1 18).toNatClampNeg ((σ3.1 9) ||| ((σ3.1 16) <<< ((15 : Int32) &&& 31)))) (fun σ5 => gd (inB (σ5.1 18) 1030) (bnd (sA σ5 4 (σ5.1 18).toNatClampNeg (0 : Int32)) (fun σ7 => cl (M_statement N (σ3.1 9) (0 : Int32) σ7) (fun r8 σ9 => (if (σ7.1 16) = (σ9.1 16) then M_readAll_118 N (M_readAll_25 N (m + 1)) (σ9.1 18) σ9 else M_readAll_118 N (M_readAll_25 N (m + 1)) (-1 : Int32) σ9))))))))
      (fun _ σ' => RAP X σA (if (rdSt X sec ln a r E).1 ≠ 0 then ((rdSt X sec ln a r E).1, ln, E0) else if (rdSt X sec ln a r E).2.2.2.tail = [] then (0, ln, (rdSt X sec ln a r E).2.1) else rdAll X n (rdSt X sec ln a r E).2.2.2.tail (rdSt X sec ln a r E).2.2.1 (ln + 1) (rdSt X sec ln a r E).2.1) σ') := by
  clear hE
  obtain ⟨k1, k2, k3, k4, k5, k5', k6, k7, k8, k9, k10, k11, k12⟩ := hR
  have hs := T0.small
  have hcur : (StE E).length < 1030 := by omega
  generalize ecur : (StE E).length = cur at *
  have hF := lexS_F hl (by rw [hk]; decide) (by rw [hk]; decide)
  have hpX : a.p < X.length := by have := hF.1.2.1; have := hF.1.2.2.1; omega
  refine RR_bnd ?_
  have e18 : (sF σ 18 (σ.1 4)).1 18 = nI cur := by rw [sF_at]; exact k9
  have e9 : (sF σ 18 (σ.1 4)).1 9 = nI a.p := by rw [sF_ne _ _ (by decide)]; exact k8
  have e16 : (sF σ 18 (σ.1 4)).1 16 = nI sec := by rw [sF_ne _ _ (by decide)]; exact k5
  rw [e18, e9, e16, nI_clamp (by omega)]
  refine RR_gd (inB_nI hcur (by omega)) (RR_bnd ?_)
  rw [show (sA (sF σ 18 (σ.1 4)) 2 cur (nI a.p ||| (nI sec <<< ((15 : Int32) &&& 31)))).1 18 = nI cur from e18, nI_clamp (by omega)]
  refine RR_gd (inB_nI hcur (by omega)) (RR_bnd ?_)
  rw [place0 (by omega) k5']
  generalize e7 : sA (sA (sF σ 18 (σ.1 4)) 2 cur (nI (plc a.p 0 sec 0))) 4 cur 0 = σ7
  have kf7 : KF σA σ7 := by rw [← e7]; exact k1.tr ⟨rfl, rfl, rfl, rfl, rfl⟩
  have s16 : σ7.1 16 = nI sec := by rw [← e7]; exact e16
  have s18 : σ7.1 18 = nI cur := by rw [← e7]; exact e18
  have s4 : σ7.1 4 = nI cur := by rw [← e7]; exact k9
  have s15 : σ7.1 15 = nI ln := by rw [← e7]; exact k4
  have s14 : σ7.1 14 = 0 := by rw [← e7]; exact k6
  have sp : ∀ i, σ7.2 2 i = if i = cur then nI (plc a.p 0 sec 0) else σ.2 2 i := fun i => by
    rw [← e7, sA_ne (by decide), sA_eq]
    unfold upd
    rfl
  have sb : ∀ i, σ7.2 4 i = if i = cur then 0 else σ.2 4 i := fun i => by
    rw [← e7, sA_eq]
    unfold upd
    rfl
  have sL : LBs X σ7 (LbE E) := by rw [← e7]; exact ⟨k3.1, k3.2.1, k3.2.2⟩
  clear e7
  have hΛ : (LbE E).length < 2050 := by omega
  have C : Cx N X (st0 σ7 0 a.p) (LbE E) ln cur a.p := ⟨hN, ((((kf7.tx T0).sFk 17 _ (by decide)).sFk 9 _ (by decide)).sFk 20 _ (by decide)).sFk 22 _ (by decide), ⟨sL.1, sL.2.1, sL.2.2⟩, s15, k12, s18, hcur, by
    show σ7.2 2 cur &&& 8191 = nI a.p
    rw [sp, if_pos rfl]; exact pl_start (by omega) (by omega) k5' (by omega), by omega, s14⟩
  have hp : Px (st0 σ7 0 a.p) cur a.p 0 sec 0 := ⟨by show σ7.2 2 cur = _; rw [sp, if_pos rfl], by omega, k5', by omega, fun _ => ⟨rfl, rfl⟩⟩
  have kf0 : KF σA (st0 σ7 0 a.p) := kf7.tr ⟨rfl, rfl, rfl, rfl, rfl⟩
  refine RR_then (R_stm σ7 C hp (by omega) hΛ hl hk) (fun v8 σ9 h9 => ?_)
  unfold RdP at h9
  have hrs : rdSt X sec ln a r E = (opO a.nm).elim (2, E, sec, []) (fun o => (fnF (stK X (LbE E) o r), E ++ (evS sec ln a o (stK X (LbE E) o r) (eqK X (LbE E) r)).1, (evS sec ln a o (stK X (LbE E) o r) (eqK X (LbE E) r)).2, (stK X (LbE E) o r).2.2)) := rfl
  -- a fault: wherever the state stands, the loop ends with it
  have bad : ∀ (F : Nat) (σb : MS), 1 ≤ F → F ≤ 15 → KF σA σb → σb.1 18 = nI cur → FS X σb (fl ln F) σ9 → RR (if σ7.1 16 = σ9.1 16 then M_readAll_118 N (M_readAll_25 N (m + 1)) (σ9.1 18) σ9 else M_readAll_118 N (M_readAll_25 N (m + 1)) (-1) σ9) (fun _ σ' => KF σA σ' ∧ σ'.1 14 = fl ln F) := by
    intro F σb h1 h2 hkb h18 hFS
    have hft := hFS.ft hkb
    have h189 : σ9.1 18 = nI cur := by rw [hFS.1.1 18 (by decide)]; exact h18
    exact RR_if (fun _ => F_118 hN T0 (fl_ne0 C ⟨h1, h2⟩) hft (Or.inr (by rw [h189]; exact inB_nI hcur (by omega)))) (fun _ => F_118 hN T0 (fl_ne0 C ⟨h1, h2⟩) hft (Or.inl (by decide)))
  cases ho : opO a.nm with
  | none =>
    rw [ho] at h9 hrs
    rw [Option.elim_none] at hrs
    rw [hrs]
    refine RR_imp (bad 2 _ (by omega) (by omega) kf0 s18 h9) (fun _ σ2 h2 => ?_)
    unfold RAP
    rw [if_pos (show (2 : Nat) ≠ 0 by omega), if_pos (show (2 : Nat) ≠ 0 by omega)]
    exact h2
  | some o =>
    rw [ho] at h9 hrs
    rw [Option.elim_some] at hrs
    simp only [] at h9
    rw [hrs]
    have efix : stm (η0 X (LbE E) (st0 σ7 0 a.p) a.p) (loR X (LbE E)) (tkA X (LbE E)) o r = stK X (LbE E) o r := stm_fix (EqF_K _ _ _) _ _ _
    have eeq : eqT (η0 X (LbE E) (st0 σ7 0 a.p) a.p) (loR X (LbE E)) (tkA X (LbE E)) r = eqK X (LbE E) r := eqT_fix (EqF_K _ _ _) _ _
    rw [efix] at h9
    have hle : fnF (stK X (LbE E) o r) ≤ 15 := fnF_le _ (stm_le _ _ _ _ _)
    by_cases hf : fnF (stK X (LbE E) o r) ≠ 0
    · rw [if_pos hf] at h9
      have hb := bsC_k (η := η0 X (LbE E) (st0 σ7 0 a.p) a.p) (lo := loR X (LbE E)) (tk := tkA X (LbE E)) (st0 σ7 0 a.p) cur a.p sec o r
      have fin : RR (if σ7.1 16 = σ9.1 16 then M_readAll_118 N (M_readAll_25 N (m + 1)) (σ9.1 18) σ9 else M_readAll_118 N (M_readAll_25 N (m + 1)) (-1) σ9) (fun _ σ' => KF σA σ' ∧ σ'.1 14 = fl ln (fnF (stK X (LbE E) o r))) := by
        rcases h9 with h9 | h9
        · exact bad _ _ (by omega) hle (kf0.tr hb.1) (hb.2.trans s18) h9
        · exact bad _ _ (by omega) hle kf0 s18 h9
      refine RR_imp fin (fun _ σ2 h2 => ?_)
      rw [if_pos hf]
      unfold RAP
      rw [if_pos hf]
      exact h2
    · rw [if_neg hf] at h9
      rw [if_neg hf]
      have hf0 := Decidable.not_not.mp hf
      obtain ⟨hz, hend⟩ := fnF_0 hf0
      obtain ⟨Bs, hG, hBs⟩ := h9
      obtain ⟨k, o', ho'⟩ : ∃ k o', opk a.nm = some (k, o') ∧ o = od (M_shapes k) (M_patterns k ||| o') := by
        unfold opO at ho
        cases hopk : opk a.nm with
        | none => rw [hopk] at ho; cases ho
        | some x => rw [hopk] at ho; cases ho; exact ⟨x.1, x.2, rfl, rfl⟩
      have hod := od_ok (M_shapes k) (M_patterns k ||| o')
      rw [← ho'.2] at hod
      have hz0 : (stm (η0 X (LbE E) (st0 σ7 0 a.p) a.p) (loR X (LbE E)) (tkA X (LbE E)) o r).1 = 0 := by rw [efix]; exact hz
      obtain ⟨A1, A2, A3, A4, ⟨A5, A5'⟩, A6⟩ := bsC_arr (σ0 := st0 σ7 0 a.p) (cur := cur) (start := a.p) (sec := sec) hod.1 hod.2 hz0 hp.1 (by show σ7.2 4 cur = 0; rw [sb, if_pos rfl]) s16
      obtain ⟨qx, hlx, hgx⟩ := id hG
      obtain ⟨CB, -⟩ := bsC_C C hp hΛ (q := a.e) hF.2.symm hz0
      have hlb : lbA (η0 X (LbE E) (st0 σ7 0 a.p) a.p) (loR X (LbE E)) (tkA X (LbE E)) o r = if o.1 = 3 then [((eqK X (LbE E) r).2.1.p, 2, (eqK X (LbE E) r).2.2.1)] else [] := by unfold lbA; rw [eeq]
      rw [hlb] at CB
      rw [efix] at A4 A5 A5'
      generalize bsC (η0 X (LbE E) (st0 σ7 0 a.p) a.p) (loR X (LbE E)) (tkA X (LbE E)) (st0 σ7 0 a.p) cur a.p sec o r = σb at *
      have hFZ := hgx.1
      have hspan := stm_span hl hk ho hod.2 (η := ηK X (LbE E)) (lo := loR X (LbE E)) (tk := tkA X (LbE E)) hz
      have hsuf := (stm_suf (η := ηK X (LbE E)) (lo := loR X (LbE E)) (tk := tkA X (LbE E)) hz).len
      change (stK X (LbE E) o r).2.2.length + _ ≤ r.length at hsuf
      change Srt (a.p + 3) (stK X (LbE E) o r).2.2 at hspan
      have hst : (evS sec ln a o (stK X (LbE E) o r) (eqK X (LbE E) r)).2 = (if o.1 = 1 then 0 else if o.1 = 2 then 1 else sec) := evS_sec _ _ _ _ _ _
      have hLb := evS_lb E sec ln a o (stK X (LbE E) o r) (eqK X (LbE E) r)
      have hSt := evS_st E sec ln a o (stK X (LbE E) o r) (eqK X (LbE E) r) (fun z => stm_123 _ _ _ _ _ z)
      generalize evS sec ln a o (stK X (LbE E) o r) (eqK X (LbE E) r) = ev at *
      generalize eb : stK X (LbE E) o r = b at *
      obtain ⟨a0, r0, er⟩ := lexS_ne X qx
      rw [hlx] at er
      rw [er] at hend
      have hk0 : a0.k = 0 := of_decide_eq_true hend
      have hap : a0.p = lend (tw X) X.length qx := end_p (hlx.trans er) hk0 hgx.2.1
      have hge : a.p + 3 ≤ lend (tw X) X.length qx := by
        rw [← hap]
        rw [er] at hspan
        exact hspan.head
      have s9_16 : σ9.1 16 = (if o.1 = 1 then 0 else if o.1 = 2 then 1 else nI sec) := by rw [hFZ.1 16 (by decide)]; exact A6
      have hsec2 : σ9.1 16 = nI ev.2 := by
        rw [s9_16, hst]
        split
        · rfl
        · split <;> rfl
      have hs2 : ev.2 < 2 := by
        rw [hst]
        split
        · omega
        · split <;> omega
      have s9_18 : σ9.1 18 = nI cur := by rw [hFZ.1 18 (by decide)]; exact CB.2.2.2.2.2.1
      have s9_15 : σ9.1 15 = nI ln := by rw [hFZ.1 15 (by decide)]; exact CB.2.2.2.1
      have s9_14 : σ9.1 14 = 0 := by rw [hFZ.1 14 (by decide)]; exact CB.2.2.2.2.2.2.2.2.2
      have s9_4 : σ9.1 4 = nI cur := by rw [hFZ.1 4 (by decide), A2]; exact s4
      have s9_k : KF σA σ9 := (kf0.tr A1).tr ⟨hFZ.1 1 (by decide), hFZ.1 2 (by decide), hFZ.1 3 (by decide), hFZ.2 0 (by decide), hFZ.2 1 (by decide)⟩
      have s9_L : LBs X σ9 (LbE (E ++ ev.1)) := by
        rw [hLb]
        obtain ⟨l1, l2, l3⟩ := CB.2.2.1
        exact ⟨by rw [hFZ.1 5 (by decide)]; exact l1, l2, fun i hi => by rw [hFZ.2 5 (by decide), hFZ.2 6 (by decide)]; exact l3 i hi⟩
      have hold : ∀ i, i < cur → StR σ9 i ((StE E).getD i ev0) := fun i hi => by
        obtain ⟨o1, o2⟩ := k10 i hi
        unfold StR
        rw [hFZ.2 2 (by decide), hFZ.2 4 (by decide), (A3 i (by omega)).1, (A3 i (by omega)).2]
        show σ7.2 2 i = _ ∧ σ7.2 4 i = _
        rw [sp, sb, if_neg (by omega), if_neg (by omega)]
        exact ⟨o1, o2⟩
      have s9_p : σ9.2 2 cur = nI (plc a.p (levI b.2.1).1 sec (levI b.2.1).2) := by rw [hFZ.2 2 (by decide)]; exact A4
      have s9_b : σ9.2 4 cur = (if o.1 = 7 then bytI b.2.1 else 0) := by rw [hFZ.2 4 (by decide)]; exact A5
      have s9_20 : σ9.1 20 = nI (ilens b.2.1) := by rw [hgx.2.2.2.1, hBs]
      have hLl : (LbE (E ++ ev.1)).length ≤ (LbE E).length + 1 := by
        rw [hLb, List.length_append]
        split <;> simp
      have hSl : (StE (E ++ ev.1)).length ≤ cur + 1 := by
        rw [hSt, List.length_append]
        split <;> simp <;> omega
      -- a statement that counts
      have good : cnt sec o = true → RR (M_readAll_118 N (M_readAll_25 N (m + 1)) (nI cur) σ9) (fun _ σ' => RAP X σA (if b.2.2.tail = [] then (0, ln, E ++ ev.1) else rdAll X n b.2.2.tail ev.2 (ln + 1) (E ++ ev.1)) σ') := by
        intro hc
        rw [if_pos hc] at hSt
        have hlen : (StE (E ++ ev.1)).length = cur + 1 := by rw [hSt, List.length_append, ecur]; rfl
        have nx : ∀ τ : MS, KF σ9 τ → LBs X τ (LbE (E ++ ev.1)) → τ.1 15 = σ9.1 15 → τ.1 16 = σ9.1 16 → τ.1 14 = σ9.1 14 → τ.1 4 = nI (cur + 1) → τ.1 9 = σ9.1 9 → τ.2 2 = σ9.2 2 → (∀ i, i ≠ cur → τ.2 4 i = σ9.2 4 i) → τ.2 4 cur = bytI b.2.1 → RR (M_readAll_152 N (M_readAll_25 N (m + 1)) N τ) (fun _ σ' => RAP X σA (if b.2.2.tail = [] then (0, ln, E ++ ev.1) else rdAll X n b.2.2.tail ev.2 (ln + 1) (E ++ ev.1)) σ') := by
          intro τ t1 t2 t3 t4 t5 t6 t7 t8 t9 t10
          refine NX hN T0 (s9_k.tr t1) t2 (t3.trans s9_15) (t4.trans hsec2) hs2 (t5.trans s9_14) (by rw [t6, hlen]) (fun i hi => ?_) hgx.2.1 (t7.trans hgx.2.2.1) hlx (by rw [er]; exact hend) (by rw [hlen]; omega) (by omega) (by omega) (fun hne q σ hq hR h4 => ih _ _ _ q σ ?_ hq hR h4)
          · rw [hlen] at hi
            rw [hSt]
            by_cases hi2 : i = cur
            · subst hi2
              rw [gD_r (by omega), ecur, Nat.sub_self]
              show τ.2 2 i = _ ∧ τ.2 4 i = _
              rw [t8, t10]
              exact ⟨s9_p, rfl⟩
            · rw [gD_l (by omega)]
              obtain ⟨o1, o2⟩ := hold i (by omega)
              exact ⟨by rw [t8]; exact o1, by rw [t9 i hi2]; exact o2⟩
          · rw [er] at hsuf ⊢
            simp only [List.tail_cons, List.length_cons] at hsuf ⊢
            omega
        unfold M_readAll_118
        refine RR_n (nI_pos (by omega)) (RR_bnd (RR_gd (inB_nI hcur (by omega)) ?_))
        rw [nI_clamp (by omega)]
        have e4' : (sF σ9 4 (σ9.1 4 + 1)).1 4 = nI (cur + 1) := by rw [sF_at, s9_4, nI_1]
        have hL' : ∀ τ : MS, τ.1 5 = σ9.1 5 → τ.2 5 = σ9.2 5 → τ.2 6 = σ9.2 6 → LBs X τ (LbE (E ++ ev.1)) := fun τ h1 h2 h3 => ⟨by rw [h1]; exact s9_L.1, s9_L.2.1, fun i hi => by rw [h2, h3]; exact s9_L.2.2 i hi⟩
        refine RR_if (fun h0 => RR_gd (inB_nI hcur (by omega)) (RR_bnd ?_)) (fun h0 => ?_)
        · refine nx _ ⟨rfl, rfl, rfl, rfl, rfl⟩ (hL' _ rfl rfl rfl) rfl rfl rfl e4' rfl rfl (fun i hi => ?_) ?_
          · rw [sA_eq, pk_un hi]; rfl
          · rw [sA_eq, pk_us]
            show σ9.1 20 = _
            rw [s9_20]
            change σ9.2 4 cur = 0 at h0
            by_cases c7 : o.1 = 7
            · rw [s9_b, if_pos c7] at h0
              rw [h0]
              have hb0 : b.2.1 = [(3, (f1T (ηK X (LbE E)) (loR X (LbE E)) 0 10 r).2.1, 0, [], [])] := by
                rw [← eb]
                show (stm _ _ _ _ _).2.1 = _
                unfold stm
                rw [if_neg (by rw [c7]; decide), if_neg (by rw [c7]; decide), if_neg (by rw [c7]; decide), if_neg (by rw [c7]; decide), if_neg (by rw [c7]; decide), if_pos c7]
              rw [hb0]
              rfl
            · exact (A5' c7).symm
        · refine nx _ ⟨rfl, rfl, rfl, rfl, rfl⟩ (hL' _ rfl rfl rfl) rfl rfl rfl e4' rfl rfl (fun i hi => rfl) ?_
          change ¬ σ9.2 4 cur = 0 at h0
          show σ9.2 4 cur = _
          by_cases c7 : o.1 = 7
          · rw [s9_b, if_pos c7]
          · rw [s9_b, if_neg c7] at h0; exact absurd rfl h0
      by_cases hc : cnt sec o = true
      · have e16' : σ7.1 16 = σ9.1 16 := by
          rw [s16, s9_16]
          unfold cnt at hc
          by_cases c1 : o.1 = 1
          · rw [if_pos c1]
            simp only [c1, true_or, decide_true, Bool.not_true, Bool.false_or, decide_eq_true_eq] at hc
            rw [if_neg (by decide)] at hc
            rw [← hc]; rfl
          · rw [if_neg c1]
            by_cases c2 : o.1 = 2
            · rw [if_pos c2]
              simp only [c2, or_true, decide_true, Bool.not_true, Bool.false_or, decide_eq_true_eq] at hc
              rw [if_pos trivial] at hc
              rw [← hc]; rfl
            · rw [if_neg c2]
        refine RR_y e16' ?_
        rw [s9_18]
        exact good hc
      · have hcf : cnt sec o = false := by simpa using hc
        have hns : ev.2 ≠ sec ∧ (o.1 = 1 ∨ o.1 = 2) := by
          unfold cnt at hcf
          simp only [Bool.or_eq_false_iff, Bool.not_eq_false', decide_eq_true_eq, decide_eq_false_iff_not] at hcf
          refine ⟨?_, hcf.1⟩
          rw [hst]
          rcases hcf.1 with c | c
          · rw [if_pos c]; intro z; apply hcf.2; rw [if_neg (by rw [c]; decide)]; exact z
          · rw [if_neg (by rw [c]; decide), if_pos c]; intro z; apply hcf.2; rw [if_pos c]; exact z
        rw [if_neg hc, List.append_nil] at hSt
        have e16' : ¬ σ7.1 16 = σ9.1 16 := by
          rw [s16, hsec2, nI_eq (by omega) (by omega)]
          exact fun z => hns.1 z.symm
        refine RR_n e16' ?_
        unfold M_readAll_118
        refine RR_y (by decide) (NX hN T0 s9_k s9_L s9_15 hsec2 hs2 s9_14 (show σ9.1 4 = nI (StE (E ++ ev.1)).length by rw [s9_4, hSt, ecur]) (show ∀ i, i < (StE (E ++ ev.1)).length → StR σ9 i ((StE (E ++ ev.1)).getD i ev0) from fun i hi => ?_) hgx.2.1 hgx.2.2.1 hlx (show atE b.2.2 = true by rw [er]; exact hend) (show 4 * (StE (E ++ ev.1)).length ≤ _ by omega) (show 2 * (LbE (E ++ ev.1)).length ≤ _ by omega) (show ln + b.2.2.length ≤ 4200 by omega) (fun hne q σ hq hR h4 => ih _ _ _ q σ ?_ hq hR h4))
        · rw [hSt] at hi ⊢
          exact hold i (by omega)
        · rw [er] at hsuf ⊢
          simp only [List.tail_cons, List.length_cons] at hsuf ⊢
          omega
theorem R_25 (hN : 4200 < N) (T0 : TX σA (tw X) X.length) : ∀ (n m : Nat) (ts : List AT) (E : List Ev) (sec ln q : Nat) (σ : MS), ts.length ≤ n → n < m → lexS X q = ts → RSt X σA E sec ln q σ → 4 * (StE E).length ≤ q → ln + ts.length ≤ 4200 → RR (M_readAll_25 N m σ) (fun _ σ' => RAP X σA (rdAll X n ts sec ln E) σ') := by
  have hs := T0.small
  intro n
  induction n with
  | zero =>
    intro m ts E sec ln q σ h1 h2 h3
    obtain ⟨a, r, e⟩ := lexS_ne X q
    rw [h3] at e
    rw [e] at h1
    simp at h1
  | succ n ih =>
    intro m ts E sec ln q σ h1 h2 h3 hR h4 h5
    obtain ⟨m', rfl⟩ : ∃ m', m = m' + 1 := ⟨m - 1, by omega⟩
    obtain ⟨m'', rfl⟩ : ∃ m'', m' = m'' + 1 := ⟨m' - 1, by omega⟩
    have hR' := hR
    obtain ⟨k1, k2, k3, k4, k5, k5', k6, k7, k8, k9, k10, k11, k12⟩ := hR
    rw [M_readAll_25]
    show RR (if σ.1 14 = 0 then _ else _) _
    refine RR_y k6 ?_
    by_cases hq : X.length ≤ q
    · have ets : ts = [endA q] := h3.symm.trans (lexS_end hq)
      refine RR_y (by rw [k2.size, k8, nI_leI (by omega) (by omega)]; exact hq) ?_
      unfold M_readAll_201
      refine RR_ret ?_
      have e1 : rdLab X sec ln ts.length ts E = (0, none, ts, E) := by rw [ets]; exact rdLab_0 X sec ln 0 E rfl
      have e2 : rdLine X sec ln ts E = (0, E, sec, ts) := by
        unfold rdLine
        rw [e1]
        rfl
      rw [rdAll, e2]
      rw [if_neg (fun z => z rfl), if_pos (by rw [ets]; rfl)]
      unfold RAP
      rw [if_neg (fun z => z rfl)]
      exact ⟨k1, k3, k6, k9, k10, by show 4 * (StE E).length ≤ X.length + 1; omega, ln, k12, k4⟩
    · refine RR_n (by rw [k2.size, k8, nI_leI (by omega) (by omega)]; exact hq) ?_
      have hlen := lexS_len X q
      rw [h3] at hlen
      unfold M_labelled
      refine RR_then (M_lab hN ts.length N ts E q σ (Nat.le_refl _) (by omega) h3 hR') (fun v σ2 hv => ?_)
      have hsf := rdLab_suf X sec ln k5' ts.length ts E
      have hle := rdLab_le X sec ln ts.length ts E
      have hsrt := lexS_srt X q
      rw [h3] at hsrt
      have hrl : rdLine X sec ln ts E = if (rdLab X sec ln ts.length ts E).1 ≠ 0 then ((rdLab X sec ln ts.length ts E).1, E, sec, []) else (rdLab X sec ln ts.length ts E).2.1.elim (0, (rdLab X sec ln ts.length ts E).2.2.2, sec, (rdLab X sec ln ts.length ts E).2.2.1) (fun a => rdSt X sec ln a (rdLab X sec ln ts.length ts E).2.2.1 (rdLab X sec ln ts.length ts E).2.2.2) := rfl
      generalize rdLab X sec ln ts.length ts E = t at *
      unfold LbP at hv
      by_cases ht : t.1 ≠ 0
      · rw [if_pos ht] at hv
        refine RR_y hv.1 ?_
        refine RR_imp (F_152 hN T0 (fl_ne k12 _ ⟨by omega, hle⟩) hv.2) (fun _ σ3 h3 => ?_)
        rw [if_pos ht] at hrl
        rw [rdAll, hrl, if_pos ht]
        unfold RAP
        rw [if_pos ht]
        exact h3
      · rw [if_neg ht] at hv hrl
        have ht0 := Decidable.not_not.mp ht
        obtain ⟨f1, f2, f3⟩ := hsf ht0
        cases hm : t.2.1 with
        | none =>
          rw [hm] at hv hrl
          rw [Option.elim_none] at hrl
          obtain ⟨hv0, q2, hR2, hl2, hE2, -⟩ := hv
          refine RR_y hv0 ?_
          rw [rdAll, hrl, if_neg (fun z => z rfl)]
          have hsu := f3 hm
          have hR2' := hR2
          obtain ⟨j1, j2, j3, j4, j5, j5', j6, j7, j8, j9, j10, j11, j12⟩ := hR2
          obtain ⟨a0, r0, er⟩ := lexS_ne X q2
          have er2 : t.2.2.1 = a0 :: r0 := hl2.symm.trans er
          have hk0 : a0.k = 0 := by rw [er2] at hE2; exact of_decide_eq_true hE2
          have hap := end_p er hk0 j7
          have hs2 := hsrt.suf hsu
          rw [er2] at hs2
          have hh := hs2.head
          have hsl := hsu.len
          have hge := lend_ge (tw X) X.length q2
          refine NX hN T0 j1 j3 j4 j5 j5' j6 j9 j10 j7 j8 hl2 hE2 (by rw [f1]; omega) (show 2 * (LbE t.2.2.2).length ≤ _ by omega) (show ln + t.2.2.1.length ≤ 4200 by omega) (fun hne q' σ' hq' hR' h4' => ih (m'' + 1) t.2.2.1.tail t.2.2.2 sec (ln + 1) q' σ' ?_ (by omega) hq' hR' h4' ?_)
          · rw [er2] at hsl ⊢
            simp only [List.tail_cons, List.length_cons] at hsl ⊢
            omega
          · rw [er2] at hsl ⊢
            simp only [List.tail_cons, List.length_cons] at hsl ⊢
            omega
        | some a =>
          rw [hm] at hv hrl
          rw [Option.elim_some] at hrl
          obtain ⟨hv1, hR2, hl2, hk2⟩ := hv
          refine RR_n (by rw [hv1]; decide) ?_
          rw [rdAll, hrl]
          have hsu := f2 a hm
          have hs2 := hsrt.suf hsu
          have hh := hs2.head
          have hsl := hsu.len
          simp only [List.length_cons] at hsl
          refine R_go hN T0 hR2 hl2 hk2 (by rw [f1]; omega) (by omega) (fun rest E2 sec2 q' σ' hr hq' hR' h4' => ih (m'' + 1) rest E2 sec2 (ln + 1) q' σ' (by omega) (by omega) hq' hR' h4' (by omega)) (by omega)
/-- readAll() -/
theorem M_readAll_eq (hN : 4200 < N) {σ : MS} (T0 : TX σ (tw X) X.length) (h14 : σ.1 14 = 0) : RR (M_readAll N σ) (fun _ σ' => RAP X σ (rdAll X (lexS X 0).length (lexS X 0) 0 1 []) σ') := by
  have hs := T0.small
  have hlen := lexS_len X 0
  unfold M_readAll
  refine RR_bnd (RR_bnd (RR_bnd (RR_bnd (RR_bnd ?_))))
  refine R_25 hN T0 _ N _ [] 0 1 0 _ (Nat.le_refl _) (by omega) rfl ⟨⟨rfl, rfl, rfl, rfl, rfl⟩, ⟨T0.size, T0.text, T0.small⟩, ⟨rfl, by show 0 ≤ 2050; omega, fun i hi => absurd hi (Nat.not_lt_zero _)⟩, rfl, rfl, by omega, h14, by omega, rfl, rfl, fun i hi => absurd hi (Nat.not_lt_zero _), by show 2 * 0 ≤ 0; omega, by omega⟩ (by show 4 * 0 ≤ 0; omega) (by omega)
end
