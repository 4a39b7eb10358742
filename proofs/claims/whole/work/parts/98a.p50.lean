/-! ===== readAll() ===== -/
/-- the events that a statement makes, and the section behind it -/
def evS (sec ln : Nat) (a : AT) (o : OD) (b : BR) (e : Nat × AT × Int32 × List AT) : List Ev × Nat :=
  if o.1 = 1 ∨ o.1 = 2 then ((if (if o.1 = 2 then 1 else 0) = sec then [(5, a.p, ln, sec, 0, [])] else []), if o.1 = 2 then 1 else 0)
  else if o.1 = 3 then ([(5, a.p, ln, sec, 0, []), (2, e.2.1.p, ln, sec, e.2.2.1, [])], sec)
  else ([(5, a.p, ln, sec, 0, b.2.1)], sec)
abbrev stK (X : List Int32) (Λ : List Lb) (o : OD) (ts : List AT) : BR := stm (ηK X Λ) (loR X Λ) (tkA X Λ) o ts
abbrev eqK (X : List Int32) (Λ : List Lb) (ts : List AT) : Nat × AT × Int32 × List AT := eqT (ηK X Λ) (loR X Λ) (tkA X Λ) ts
/-- a statement: fault, events, section, what is left -/
def rdSt (X : List Int32) (sec ln : Nat) (a : AT) (ts : List AT) (E : List Ev) : Nat × List Ev × Nat × List AT := (opO a.nm).elim (2, E, sec, []) (fun o => (fnF (stK X (LbE E) o ts), E ++ (evS sec ln a o (stK X (LbE E) o ts) (eqK X (LbE E) ts)).1, (evS sec ln a o (stK X (LbE E) o ts) (eqK X (LbE E) ts)).2, (stK X (LbE E) o ts).2.2))
def rdLine (X : List Int32) (sec ln : Nat) (ts : List AT) (E : List Ev) : Nat × List Ev × Nat × List AT := if (rdLab X sec ln ts.length ts E).1 ≠ 0 then ((rdLab X sec ln ts.length ts E).1, E, sec, []) else (rdLab X sec ln ts.length ts E).2.1.elim (0, (rdLab X sec ln ts.length ts E).2.2.2, sec, (rdLab X sec ln ts.length ts E).2.2.1) (fun a => rdSt X sec ln a (rdLab X sec ln ts.length ts E).2.2.1 (rdLab X sec ln ts.length ts E).2.2.2)
def rdAll (X : List Int32) : Nat → List AT → Nat → Nat → List Ev → Nat × Nat × List Ev
  | 0, _, _, ln, E => (0, ln, E)
  | n + 1, ts, sec, ln, E => if (rdLine X sec ln ts E).1 ≠ 0 then ((rdLine X sec ln ts E).1, ln, E) else if (rdLine X sec ln ts E).2.2.2.tail = [] then (0, ln, (rdLine X sec ln ts E).2.1) else rdAll X n (rdLine X sec ln ts E).2.2.2.tail (rdLine X sec ln ts E).2.2.1 (ln + 1) (rdLine X sec ln ts E).2.1
theorem tokC_0 {X : List Int32} {q : Nat} {a : AT} (h : tokC X q = some a) (hk : a.k = 0) : tw X q = 10 := by
  unfold tokC at h
  simp only [] at h
  by_cases hd : isDg (tw X q) = true
  · rw [if_pos hd] at h
    exfalso
    unfold numC at h
    split at h
    · cases h; exact absurd hk (by show ¬ (5 : Int32) = 0; decide)
    · split at h
      · cases h
        revert hk
        simp only [AT.k]
        split <;> decide
      · cases h
  rw [if_neg hd] at h
  by_cases hp : isPl (tw X q) = true
  · rw [if_pos hp] at h
    exfalso
    split at h
    · cases h
    · cases h; exact absurd hk (by show ¬ (2 : Int32) = 0; decide)
  rw [if_neg hp] at h
  by_cases h39 : tw X q = 39
  · rw [if_pos h39] at h
    exfalso
    unfold chrC at h
    split at h
    · cases h; exact absurd hk (by show ¬ (3 : Int32) = 0; decide)
    · cases h
  rw [if_neg h39] at h
  by_cases h34 : tw X q = 34
  · rw [if_pos h34] at h
    exfalso
    cases hs : strS (tw X) X.length (q + 1) with
    | none => rw [hs] at h; cases h
    | some t => rw [hs] at h; cases h; exact absurd hk (by show ¬ (6 : Int32) = 0; decide)
  rw [if_neg h34] at h
  unfold sgnC at h
  simp only [] at h
  split at h
  · assumption
  · exfalso
    split at h
    · rename_i h6
      split at h
      · cases h
        rcases h6 with z | z
        · have : (60 : Int32) = 0 := z.symm.trans hk; exact absurd this (by decide)
        · have : (62 : Int32) = 0 := z.symm.trans hk; exact absurd this (by decide)
      · cases h
    · split at h
      · rename_i hs
        cases h
        have hs' : tw X q = 0 := hk
        simp only [isSg, decide_eq_true_eq] at hs
        rw [hs'] at hs
        revert hs
        decide
      · cases h
/-- where a line ends -/
theorem end_nl {X : List Int32} {q : Nat} {a : AT} {r : List AT} (hl : lexS X q = a :: r) (hk : a.k = 0) (hs : q = skipB (tw X) X.length q) (hq : q ≤ X.length) : (lend (tw X) X.length q = X.length → r = []) ∧ (lend (tw X) X.length q < X.length → r = lexS X (lend (tw X) X.length q + 1)) ∧ a.p = lend (tw X) X.length q := by
  have hle := lend_le (tw X) X.length q hq
  have hat := lend_at (tw X) X.length q
  by_cases hend : q < X.length
  · have h3 := skipB_at (tw X) X.length q
    rw [← hs] at h3
    have gb : ¬ (X.getD q 0 = 32 ∨ X.getD q 0 = 9) := fun z => h3 ⟨hend, z.symm⟩
    rw [lexS, dif_pos hend, if_neg gb] at hl
    by_cases h35 : X.getD q 0 = 35
    · rw [if_pos h35] at hl
      have hb : q + 1 ≤ lend (tw X) X.length q := by
        rw [lend, dif_pos ⟨hend, by show X.getD q 0 ≠ 10; rw [h35]; decide⟩]
        exact lend_ge _ _ _
      rw [Nat.max_eq_left hb] at hl
      generalize lend (tw X) X.length q = e at hl hle hat ⊢
      by_cases he : e < X.length
      · have h10 : tw X e = 10 := Decidable.not_not.mp (fun z => hat ⟨he, z⟩)
        rw [lexS_nl he h10] at hl
        cases hl
        exact ⟨fun z => by omega, fun _ => rfl, rfl⟩
      · rw [lexS_end (by omega)] at hl
        cases hl
        exact ⟨fun _ => rfl, fun z => absurd z he, rfl⟩
    · rw [if_neg h35] at hl
      split at hl
      · cases hl; exact absurd (show (1 : Int32) = 0 from hk) (by decide)
      · rename_i b hb
        obtain ⟨g1, g2, g3, g4⟩ := tokC_e hend hb
        rw [dif_pos g1] at hl
        injection hl with e1 e2
        subst e1
        have h10 : tw X q = 10 := tokC_0 hb hk
        have el : lend (tw X) X.length q = q := by
          rw [lend, dif_neg (fun z => z.2 h10)]
        have := lexS_nl hend h10
        have e0 : lexS X q = b :: r := by
          rw [lexS, dif_pos hend, if_neg gb, if_neg h35, hb]
          show (if h : q < b.e then b :: lexS X b.e else []) = _
          rw [dif_pos g1, e2]
        rw [this] at e0
        injection e0 with f1 f2
        rw [el]
        exact ⟨fun z => by omega, fun _ => f2.symm, by rw [← f1]⟩
  · rw [lexS_end (by omega)] at hl
    cases hl
    have el : lend (tw X) X.length q = q := by rw [lend, dif_neg (fun z => hend z.1)]
    rw [el]
    exact ⟨fun _ => rfl, fun z => by omega, rfl⟩
section
variable {N : Nat} {X : List Int32} {σA : MS}
theorem R_152 {σ : MS} (T : TX σ (tw X) X.length) {rec : MS → Option (Int32 × MS)} {Q : Int32 → MS → Prop} : ∀ (m q : Nat) (τ : MS), τ = sF σ 9 (nI q) → q ≤ X.length → X.length - q < m → RR (rec (sF (sF σ 9 (nI (lend (tw X) X.length q + 1))) 15 (σ.1 15 + 1))) Q → RR (M_readAll_152 N rec m τ) Q := by
  have hs := T.small
  intro m
  induction m with
  | zero => intro q τ _ h1 h2; omega
  | succ m ih =>
    intro q τ hτ h1 h2 go
    subst hτ
    rw [M_readAll_152]
    show RR (cr (M_charAt ((sF σ 9 (nI q)).1 9) (sF σ 9 (nI q))) _) _
    rw [sF_at]
    refine RR_cr (M_charAt_eq (T.sFk 9 _ (by decide)) (by omega)) ?_
    rw [lend] at go
    by_cases hq : q < X.length
    · rw [ch_in hq]
      by_cases h10 : tw X q = 10
      · rw [dif_neg (fun z => z.2 h10)] at go
        refine RR_y h10 (RR_bnd (RR_bnd ?_))
        rw [sF_same, nI_1, sF_ne _ _ (by decide)]
        exact go
      · rw [dif_pos ⟨hq, h10⟩] at go
        refine RR_n h10 (RR_bnd ?_)
        rw [sF_same, nI_1]
        exact ih (q + 1) _ rfl (by omega) (by omega) go
    · rw [dif_neg (fun z => hq z.1)] at go
      rw [ch_end (by omega)]
      refine RR_y rfl (RR_bnd (RR_bnd ?_))
      rw [sF_same, nI_1, sF_ne _ _ (by decide)]
      exact go
theorem sF_self {σ : MS} {j : Nat} {v : Int32} (h : σ.1 j = v) : sF σ j v = σ := by
  unfold sF
  refine Prod.ext (funext fun k => ?_) rfl
  show upd σ.1 j v k = σ.1 k
  unfold upd
  split
  · rename_i e; rw [e, h]
  · rfl
/-- a fault stands: the loop ends -/
theorem rd_fault {m : Nat} {F : Int32} {σ : MS} (hF : F ≠ 0) (h : FTt X σA F σ) : M_readAll_25 N (m + 1) σ = some (0, σ) := by
  rw [M_readAll_25]
  show (if σ.1 14 = 0 then _ else _) = _
  rw [if_neg (by rw [h.2.2]; exact hF)]
  rfl
theorem F_152 {m : Nat} (hN : 4200 < N) (T0 : TX σA (tw X) X.length) {F : Int32} {σ : MS} (hF : F ≠ 0) (h : FTt X σA F σ) : RR (M_readAll_152 N (M_readAll_25 N (m + 1)) N σ) (fun _ σ' => KF σA σ' ∧ σ'.1 14 = F) := by
  obtain ⟨h1, ⟨q, hq, h9⟩, h14⟩ := h
  have hs := T0.small
  have T := h1.tx T0
  refine R_152 T N q σ (sF_self h9).symm hq (by omega) ?_
  rw [M_readAll_25]
  show RR (if (sF (sF σ 9 (nI (lend (tw X) X.length q + 1))) 15 (σ.1 15 + 1)).1 14 = 0 then _ else _) _
  have e14 : (sF (sF σ 9 (nI (lend (tw X) X.length q + 1))) 15 (σ.1 15 + 1)).1 14 = F := by
    rw [sF_ne _ _ (by decide), sF_ne _ _ (by decide)]; exact h14
  refine RR_n (by rw [e14]; exact hF) (RR_ret ⟨h1.tr ⟨rfl, rfl, rfl, rfl, rfl⟩, e14⟩)
/-- what readAll() leaves -/
def REnd (X : List Int32) (σA : MS) (E : List Ev) (σ : MS) : Prop := KF σA σ ∧ LBs X σ (LbE E) ∧ σ.1 14 = 0 ∧ σ.1 4 = nI (StE E).length ∧ (∀ i, i < (StE E).length → StR σ i ((StE E).getD i ev0)) ∧ 4 * (StE E).length ≤ X.length + 1 ∧ ∃ ln, ln < 10000 ∧ σ.1 15 = nI ln
def RAP (X : List Int32) (σA : MS) (t : Nat × Nat × List Ev) (σ : MS) : Prop := if t.1 ≠ 0 then KF σA σ ∧ σ.1 14 = fl t.2.1 t.1 else REnd X σA t.2.2 σ
theorem place0 {p sec : Nat} (hp : p < 8192) (hs : sec < 2) : nI p ||| (nI sec <<< ((15 : Int32) &&& 31)) = nI (plc p 0 sec 0) := by
  rw [nI_shl sec (k := 15) (by decide), Int32.or_comm, nI_or (k := 15) (by omega) (by omega)]
  congr 1
  unfold plc
  omega
end
