/-! ===== readAll(): a line after the other ===== -/
theorem levI_0 {l : List AI} (h : ∀ i ∈ l, isJ i.1 = false) : levI l = (0, 0) := by
  match l, h with
  | [], _ => rfl
  | [i], h =>
    show (if isJ i.1 = true then _ else _) = _
    rw [h i (List.mem_singleton.mpr rfl)]
    rfl
  | _ :: _ :: _, _ => rfl
theorem bytI_n {l : List AI} (h : ∀ i ∈ l, i.1 ≠ 3) : bytI l = nI (ilens l) := by
  match l, h with
  | [], _ => rfl
  | [i], h =>
    show (if i.1 = 3 then _ else _) = _
    rw [if_neg (h i (List.mem_singleton.mpr rfl))]
  | _ :: _ :: _, _ => rfl
section
variable {N : Nat} {X : List Int32} {σ0 σA : MS} {Λ : List Lb} {ln cur start : Nat}
/-- the arrays behind a statement that was read -/
theorem bsC_arr {η : Int32 → AT → Int32 × Bool} {lo : AT → Bool} {tk : List Int32 → Bool} {sec : Nat} {o : OD} {ts : List AT} (hx : oneX o.2.1 = true) (hro : roleOk o.1 = true) (hz : (stm η lo tk o ts).1 = 0) (hp2 : σ0.2 2 cur = nI (plc start 0 sec 0)) (h4 : σ0.2 4 cur = 0) (h16 : σ0.1 16 = nI sec) :
    KF σ0 (bsC η lo tk σ0 cur start sec o ts) ∧ (bsC η lo tk σ0 cur start sec o ts).1 4 = σ0.1 4 ∧ (∀ i, i ≠ cur → (bsC η lo tk σ0 cur start sec o ts).2 2 i = σ0.2 2 i ∧ (bsC η lo tk σ0 cur start sec o ts).2 4 i = σ0.2 4 i) ∧ (bsC η lo tk σ0 cur start sec o ts).2 2 cur = nI (plc start (levI (stm η lo tk o ts).2.1).1 sec (levI (stm η lo tk o ts).2.1).2) ∧ ((bsC η lo tk σ0 cur start sec o ts).2 4 cur = (if o.1 = 7 then bytI (stm η lo tk o ts).2.1 else 0) ∧ (o.1 ≠ 7 → bytI (stm η lo tk o ts).2.1 = nI (ilens (stm η lo tk o ts).2.1))) ∧ (bsC η lo tk σ0 cur start sec o ts).1 16 = (if o.1 = 1 then 0 else if o.1 = 2 then 1 else nI sec) := by
  have triv : ∀ (σb : MS) (its : List AI), σb = σ0 → (∀ i ∈ its, isJ i.1 = false) → (∀ i ∈ its, i.1 ≠ 3) → o.1 ≠ 7 → o.1 ≠ 1 → o.1 ≠ 2 → KF σ0 σb ∧ σb.1 4 = σ0.1 4 ∧ (∀ i, i ≠ cur → σb.2 2 i = σ0.2 2 i ∧ σb.2 4 i = σ0.2 4 i) ∧ σb.2 2 cur = nI (plc start (levI its).1 sec (levI its).2) ∧ (σb.2 4 cur = (if o.1 = 7 then bytI its else 0) ∧ (o.1 ≠ 7 → bytI its = nI (ilens its))) ∧ σb.1 16 = (if o.1 = 1 then 0 else if o.1 = 2 then 1 else nI sec) := by
    intro σb its e hj h3 n7 n1 n2
    subst e
    rw [levI_0 hj, if_neg n7, if_neg n1, if_neg n2]
    exact ⟨KF.rf _, rfl, fun _ _ => ⟨rfl, rfl⟩, hp2, ⟨h4, fun _ => bytI_n h3⟩, h16⟩
  unfold bsC
  unfold stm at hz ⊢
  by_cases c1 : o.1 = 1 ∨ o.1 = 2
  · rw [if_pos c1, if_pos c1]
    refine ⟨⟨rfl, rfl, rfl, rfl, rfl⟩, rfl, fun _ _ => ⟨rfl, rfl⟩, hp2, ⟨?_, fun _ => rfl⟩, ?_⟩
    · rw [if_neg (by rcases c1 with e | e <;> rw [e] <;> decide)]; exact h4
    · rw [sF_at]
      rcases c1 with e | e
      · rw [e, if_pos rfl]; decide
      · rw [e, if_neg (by decide), if_pos rfl]; decide
  rw [if_neg c1] at hz ⊢
  rw [if_neg c1]
  simp only [not_or] at c1
  by_cases c3 : o.1 = 3
  · rw [if_pos c3, if_pos c3]
    refine ⟨⟨rfl, rfl, rfl, rfl, rfl⟩, rfl, fun _ _ => ⟨rfl, rfl⟩, hp2, ⟨?_, fun _ => rfl⟩, ?_⟩
    · rw [if_neg (by rw [c3]; decide)]; exact h4
    · rw [if_neg c1.1, if_neg c1.2]; exact h16
  rw [if_neg c3] at hz ⊢
  rw [if_neg c3]
  by_cases c4 : o.1 = 4
  · rw [if_pos c4, if_pos c4]
    refine triv _ _ rfl (fun i hi => ?_) (fun i hi => ?_) (by rw [c4]; decide) c1.1 c1.2
    · obtain ⟨R, -, rfl⟩ := List.mem_map.mp hi; exact rfl
    · obtain ⟨R, -, rfl⟩ := List.mem_map.mp hi; show (61 : Int32) ≠ 3; decide
  rw [if_neg c4] at hz ⊢
  rw [if_neg c4]
  by_cases c5 : o.1 = 5
  · rw [if_pos c5, if_pos c5]
    refine triv _ _ rfl (fun i hi => ?_) (fun i hi => ?_) (by rw [c5]; decide) c1.1 c1.2
    · obtain ⟨R, -, rfl⟩ := List.mem_map.mp hi; exact rfl
    · obtain ⟨R, -, rfl⟩ := List.mem_map.mp hi; show (4 : Int32) ≠ 3; decide
  rw [if_neg c5] at hz ⊢
  rw [if_neg c5]
  by_cases c6 : o.1 = 6
  · rw [if_pos c6, if_pos c6]
    refine triv _ _ rfl (fun i hi => ?_) (fun i hi => ?_) (by rw [c6]; decide) c1.1 c1.2
    · rw [List.mem_singleton.mp hi]; exact rfl
    · rw [List.mem_singleton.mp hi]; show (2 : Int32) ≠ 3; decide
  rw [if_neg c6] at hz ⊢
  rw [if_neg c6]
  by_cases c7 : o.1 = 7
  · rw [if_pos c7, if_pos c7]
    refine ⟨⟨rfl, rfl, rfl, rfl, rfl⟩, rfl, fun i hi => ⟨rfl, ?_⟩, hp2, ⟨?_, fun z => absurd c7 z⟩, ?_⟩
    · rw [sA_eq, pk_un hi]
    · rw [sA_eq, pk_us, if_pos c7]
      rfl
    · rw [if_neg c1.1, if_neg c1.2]; exact h16
  rw [if_neg c7] at hz ⊢
  rw [if_neg c7]
  by_cases c8 : o.1 = 8
  · rw [if_pos c8, if_pos c8]
    refine triv _ _ rfl (fun i hi => ?_) (fun i hi => ?_) c7 c1.1 c1.2
    · obtain ⟨R, -, rfl⟩ := List.mem_map.mp hi; exact rfl
    · obtain ⟨R, -, rfl⟩ := List.mem_map.mp hi; show (0 : Int32) ≠ 3; decide
  rw [if_neg c8] at hz ⊢
  rw [if_neg c8]
  have hz' : (srO o ts).1 = 0 := hz
  have hmk := srO_mk (o := o) (ts := ts) hx hz'
  generalize srO o ts = s at hz' hmk ⊢
  have mem1 : ∀ i ∈ sI s, i = (s.2.2.1, s.2.1, (len0 s.2.2.1 s.2.1).toNatClampNeg, s.2.2.2.1, []) := fun i hi => List.mem_singleton.mp hi
  by_cases cJ : isJ s.2.2.1 = true
  · rw [if_pos cJ]
    have cJ' := cJ
    unfold isJ at cJ'
    simp only [decide_eq_true_eq] at cJ'
    have eLv : levI (sI s) = (LvR s.2.2.1 s.2.1, kdO s.2.2.1 s.2.1) := by
      show (if isJ s.2.2.1 = true then (Lof (len0 s.2.2.1 s.2.1).toNatClampNeg, kdO s.2.2.1 s.2.1) else (0, 0)) = _
      rw [if_pos cJ]
      congr 1
      have hl2 : len0 s.2.2.1 s.2.1 = 2 ∨ len0 s.2.2.1 s.2.1 = 4 := by
        unfold len0
        rw [if_neg (by rcases cJ' with e | e | e <;> rw [e] <;> decide)]
        split
        · exact Or.inl rfl
        · split
          · split
            · exact Or.inl rfl
            · exact Or.inr rfl
          · split
            · exact Or.inr rfl
            · exact Or.inl rfl
      unfold LvR
      rcases hl2 with e | e <;> rw [e] <;> rfl
    refine ⟨⟨rfl, rfl, rfl, rfl, rfl⟩, rfl, fun i hi => ⟨?_, rfl⟩, ?_, ⟨?_, fun _ => bytI_n (fun i hi => ?_)⟩, ?_⟩
    · show (if 2 = 2 then upd (σ0.2 2) cur _ else σ0.2 2) i = _
      rw [if_pos rfl, pk_un hi]
    · show (if 2 = 2 then upd (σ0.2 2) cur _ else σ0.2 2) cur = _
      rw [if_pos rfl, pk_us, eLv]
    · rw [if_neg c7]; exact h4
    · rw [mem1 i hi]
      show s.2.2.1 ≠ 3
      rcases cJ' with e | e | e <;> rw [e] <;> decide
    · rw [if_neg c1.1, if_neg c1.2]; exact h16
  · rw [if_neg cJ]
    have cJf : isJ s.2.2.1 = false := by simpa using cJ
    refine triv _ _ rfl (fun i hi => by rw [mem1 i hi]; exact cJf) (fun i hi => ?_) c7 c1.1 c1.2
    rw [mem1 i hi]
    show s.2.2.1 ≠ 3
    by_cases c64 : s.2.2.1 = 64
    · rw [c64]; decide
    · rcases hmk cJf c64 with ⟨m1, -⟩ | ⟨-, m2⟩
      · rw [m1]; decide
      · intro z; rw [z] at m2; exact absurd m2 (by decide)
theorem lend_skip (w : Nat → Int32) (n q : Nat) : lend w n (skipB w n q) = lend w n q := by
  induction h : n - q generalizing q with
  | zero => rw [skipB, dif_neg (by omega)]
  | succ k ih =>
    rw [skipB]
    split
    · rename_i hb
      rw [ih (q + 1) (by omega)]
      conv => rhs; rw [lend]
      rw [dif_pos ⟨hb.1, by rcases hb.2 with z | z <;> rw [z] <;> decide⟩]
    · rfl
/-- from the end of a line to the next -/
theorem NX (hN : 4200 < N) (T0 : TX σA (tw X) X.length) {E2 : List Ev} {sec2 m n q2 : Nat} {rest : List AT} {τ : MS} (hk : KF σA τ) (hL : LBs X τ (LbE E2)) (h15 : τ.1 15 = nI ln) (h16 : τ.1 16 = nI sec2) (hs2 : sec2 < 2) (h14 : τ.1 14 = 0) (h4 : τ.1 4 = nI (StE E2).length) (hS : ∀ i, i < (StE E2).length → StR τ i ((StE E2).getD i ev0)) (hq : q2 ≤ X.length) (h9 : τ.1 9 = nI q2) (hl : lexS X q2 = rest) (hE : atE rest = true) (b1 : 4 * (StE E2).length ≤ lend (tw X) X.length q2 + 1) (b2' : 2 * (LbE E2).length ≤ lend (tw X) X.length q2 + 1) (hln : ln + rest.length ≤ 4200)
    (ih : rest.tail ≠ [] → ∀ (q : Nat) (σ : MS), lexS X q = rest.tail → RSt X σA E2 sec2 (ln + 1) q σ → 4 * (StE E2).length ≤ q → RR (M_readAll_25 N (m + 1) σ) (fun _ σ' => RAP X σA (rdAll X n rest.tail sec2 (ln + 1) E2) σ')) : RR (M_readAll_152 N (M_readAll_25 N (m + 1)) N τ) (fun _ σ' => RAP X σA (if rest.tail = [] then (0, ln, E2) else rdAll X n rest.tail sec2 (ln + 1) E2) σ') := by
  have hs := T0.small
  have T := hk.tx T0
  obtain ⟨a0, r0, e0⟩ := lexS_ne X q2
  have er : rest = a0 :: r0 := hl.symm.trans e0
  have hk0 : a0.k = 0 := by
    rw [er] at hE
    exact of_decide_eq_true hE
  have hl2 : lexS X (skipB (tw X) X.length q2) = a0 :: r0 := by rw [← lexS_skip]; exact e0
  obtain ⟨n1, n2, n3⟩ := end_nl hl2 hk0 (skipB_id _ _ _).symm (skipB_le _ _ _ hq)
  rw [lend_skip] at n1 n2 n3
  have hle := lend_le (tw X) X.length q2 hq
  refine R_152 T N q2 τ (sF_self h9).symm hq (by omega) ?_
  rw [er]
  show RR _ (fun _ σ' => RAP X σA (if r0 = [] then (0, ln, E2) else rdAll X n r0 sec2 (ln + 1) E2) σ')
  have kf : KF σA (sF (sF τ 9 (nI (lend (tw X) X.length q2 + 1))) 15 (τ.1 15 + 1)) := hk.tr ⟨rfl, rfl, rfl, rfl, rfl⟩
  by_cases he : lend (tw X) X.length q2 < X.length
  · have e2 := n2 he
    have hne : r0 ≠ [] := by
      rw [e2]
      obtain ⟨b, s, e⟩ := lexS_ne X (lend (tw X) X.length q2 + 1)
      rw [e]; simp
    rw [if_neg hne]
    have ih' := ih (by rw [er]; exact hne)
    rw [er] at ih' hln
    simp only [List.length_cons] at hln
    refine ih' (lend (tw X) X.length q2 + 1) _ e2.symm ⟨kf, kf.tx T0, ⟨hL.1, hL.2.1, hL.2.2⟩, ?_, h16, hs2, h14, by omega, ?_, h4, hS, b2', by omega⟩ b1
    · rw [sF_at, h15, nI_1]
    · rw [sF_ne _ _ (by decide), sF_at]
  · have e2 := n1 (by omega)
    rw [if_pos e2, M_readAll_25]
    show RR (if (sF (sF τ 9 (nI (lend (tw X) X.length q2 + 1))) 15 (τ.1 15 + 1)).1 14 = 0 then _ else _) _
    refine RR_y h14 (RR_y ?_ ?_)
    · show (sF (sF τ 9 (nI (lend (tw X) X.length q2 + 1))) 15 (τ.1 15 + 1)).1 2 ≤ (sF (sF τ 9 (nI (lend (tw X) X.length q2 + 1))) 15 (τ.1 15 + 1)).1 9
      rw [show (sF (sF τ 9 (nI (lend (tw X) X.length q2 + 1))) 15 (τ.1 15 + 1)).1 2 = nI X.length from T.size, sF_ne _ _ (by decide), sF_at, nI_leI (by omega) (by omega)]
      omega
    · unfold M_readAll_201
      refine RR_ret ?_
      unfold RAP
      rw [if_neg (fun z => z rfl)]
      exact ⟨kf, ⟨hL.1, hL.2.1, hL.2.2⟩, h14, h4, hS, by show 4 * (StE E2).length ≤ X.length + 1; omega, ln + 1, by omega, by rw [sF_at, h15, nI_1]⟩
end
