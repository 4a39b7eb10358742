/-! ===== readAll(), whole ===== -/
theorem rdLab_suf (X : List Int32) (sec ln : Nat) : ∀ (n : Nat) (ts : List AT) (E : List Ev), (rdLab X sec ln n ts E).1 = 0 → StE (rdLab X sec ln n ts E).2.2.2 = StE E ∧ (∀ a, (rdLab X sec ln n ts E).2.1 = some a → Suf (a :: (rdLab X sec ln n ts E).2.2.1) ts 0) ∧ ((rdLab X sec ln n ts E).2.1 = none → Suf (rdLab X sec ln n ts E).2.2.1 ts 0)
  | 0, ts, E, h => absurd (show (1 : Nat) = 0 from h) (by decide)
  | n + 1, [], E, h => absurd (show (1 : Nat) = 0 from h) (by decide)
  | n + 1, a :: r, E, h => by
    by_cases k0 : a.k = 0
    · rw [rdLab_0 X sec ln n E k0]
      exact ⟨rfl, fun b z => by cases z, fun _ => Suf.rf _⟩
    by_cases k24 : a.k = 2 ∨ a.k = 4
    · have n1 : a.k ≠ 1 := by rcases k24 with z | z <;> rw [z] <;> decide
      match r, h with
      | [], h =>
        exfalso
        rw [rdLab] at h
        have h' : (if a.k = 0 then ((0 : Nat), (none : Option AT), [a], E) else if a.k = 2 ∨ a.k = 4 then (1, none, [], E) else (1, none, [], E)).1 = 0 := h
        rw [if_neg k0, if_pos k24] at h'
        exact absurd (show (1 : Nat) = 0 from h') (by decide)
      | b :: r2, h =>
        rw [rdLab_c X sec ln n E k0 k24] at h ⊢
        by_cases c58 : b.k = 58
        · rw [if_pos c58] at h ⊢
          by_cases ct : a.k = 2 ∧ tkA X (LbE E) a.nm = true
          · rw [if_pos ct] at h
            exact absurd (show (4 : Nat) = 0 from h) (by decide)
          · rw [if_neg ct] at h ⊢
            obtain ⟨i1, i2, i3⟩ := rdLab_suf X sec ln n r2 _ h
            have hsuf : Suf r2 (a :: b :: r2) 0 := ((Suf.c1 (a := b) (r := r2) (by rw [c58]; decide) (by rw [c58]; decide)).tr (Suf.c1 (a := a) (r := b :: r2) k0 n1)).le (by omega)
            refine ⟨?_, fun x hx => (i2 x hx).tr hsuf, fun hx => (i3 hx).tr hsuf⟩
            rw [i1, StE_snoc, if_neg, List.append_nil]
            show ¬ sec + (if a.k = 4 then 3 else 0) = 5
            sorry
        · rw [if_neg c58] at h ⊢
          by_cases c4 : a.k = 4
          · rw [if_pos c4] at h
            exact absurd (show (1 : Nat) = 0 from h) (by decide)
          · rw [if_neg c4]
            refine ⟨rfl, fun x hx => ?_, fun z => by cases z⟩
            cases hx
            exact Suf.rf _
    · rw [rdLab_bad X sec ln n E k0 k24] at h
      exact absurd (show (1 : Nat) = 0 from h) (by decide)
