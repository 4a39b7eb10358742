/-! ===== tokens' facts ===== -/
def okK (k : Int32) : Prop := k = 0 ∨ k = 2 ∨ k = 3 ∨ k = 4 ∨ k = 5 ∨ k = 6 ∨ k = 58 ∨ k = 44 ∨ k = 40 ∨ k = 41 ∨ k = 43 ∨ k = 45 ∨ k = 42 ∨ k = 47 ∨ k = 37 ∨ k = 38 ∨ k = 124 ∨ k = 94 ∨ k = 126 ∨ k = 60 ∨ k = 62
theorem okK_facts {k : Int32} (h : okK k) : rnk (rk k) = levN k ∧ (rk k = 40 ↔ k = 40) ∧ (rk k = 41 ↔ k = 41) ∧ (rk k = 37 ↔ k = 37) ∧ (rk k = 45 ↔ k = 45) ∧ (rk k = 126 ↔ k = 126) ∧ (rk k = 1 ↔ k = 2) ∧ (rk k = 2 ↔ (k = 3 ∨ k = 4)) ∧ (rk k = 3 ↔ k = 5) ∧ (0 < levN k → rk k = sg k ∧ okS k ∧ isB2 k = true ∧ rk k ≠ 0) := by
  rcases h with h | h | h | h | h | h | h | h | h | h | h | h | h | h | h | h | h | h | h | h | h <;> subst h <;> (refine ⟨by decide, by decide, by decide, by decide, by decide, by decide, by decide, by decide, by decide, fun z => ?_⟩) <;> first | exact absurd z (by decide) | (refine ⟨by decide, ?_, by decide, by decide⟩; unfold okS; decide)
theorem tokC_f {X : List Int32} {q : Nat} {a : AT} (h : tokC X q = some a) : okK a.k ∧ (a.k = 2 → a.nm = cut X q (pend (tw X) X.length q) ∧ a.p = q ∧ a.e = pend (tw X) X.length q ∧ isPl (tw X q) = true ∧ isDg (tw X q) = false ∧ a.e ≤ q + 31) := by
  unfold tokC at h
  simp only [] at h
  by_cases hd : isDg (tw X q) = true
  · rw [if_pos hd] at h
    rcases digTk_k (tw X) q (pend (tw X) X.length q) with ⟨k1, -⟩ | ⟨k1, -⟩ | ⟨k1, -⟩
    · unfold numC at h
      rw [if_pos k1] at h
      simp only [Option.map_some, Option.some.injEq] at h
      subst h
      exact ⟨by unfold okK; simp, fun z => absurd (show (5 : Int32) = 2 from z) (by decide)⟩
    · unfold numC at h
      rw [if_neg (by rw [k1]; decide), if_pos k1] at h
      simp only [Option.map_some, Option.some.injEq] at h
      subst h
      by_cases c : (digTk (tw X) q (pend (tw X) X.length q)).to = q + 1
      · simp only [c, if_true]
        exact ⟨by unfold okK; simp, fun z => absurd (show (4 : Int32) = 2 from z) (by decide)⟩
      · simp only [c, if_false]
        exact ⟨by unfold okK; simp, fun z => absurd (show (3 : Int32) = 2 from z) (by decide)⟩
    · unfold numC at h
      rw [if_neg (by rw [k1]; decide), if_neg (by rw [k1]; decide)] at h
      cases h
  · rw [if_neg hd] at h
    by_cases hp : isPl (tw X q) = true
    · rw [if_pos hp] at h
      by_cases c : q + 31 < pend (tw X) X.length q
      · rw [if_pos c] at h; cases h
      · rw [if_neg c] at h
        simp only [Option.some.injEq] at h
        subst h
        exact ⟨by unfold okK; simp, fun _ => ⟨rfl, rfl, rfl, hp, by simpa using hd, by show pend _ _ _ ≤ _; omega⟩⟩
    · rw [if_neg hp] at h
      by_cases h39 : tw X q = 39
      · rw [if_pos h39] at h
        unfold chrC at h
        split at h
        · simp only [Option.map_some, Option.some.injEq] at h
          subst h
          exact ⟨by unfold okK; simp, fun z => absurd (show (3 : Int32) = 2 from z) (by decide)⟩
        · cases h
      · rw [if_neg h39] at h
        by_cases h34 : tw X q = 34
        · rw [if_pos h34] at h
          cases hs : strS (tw X) X.length (q + 1) with
          | none => rw [hs] at h; cases h
          | some t =>
            rw [hs] at h
            simp only [Option.map_some, Option.some.injEq] at h
            subst h
            exact ⟨by unfold okK; simp, fun z => absurd (show (6 : Int32) = 2 from z) (by decide)⟩
        · rw [if_neg h34] at h
          unfold sgnC at h
          simp only [] at h
          by_cases h10 : tw X q = 10
          · rw [if_pos h10] at h
            simp only [Option.map_some, Option.some.injEq] at h
            subst h
            exact ⟨by unfold okK; simp, fun z => absurd (show (0 : Int32) = 2 from z) (by decide)⟩
          · rw [if_neg h10] at h
            by_cases h6 : tw X q = 60 ∨ tw X q = 62
            · rw [if_pos h6] at h
              split at h
              · simp only [Option.map_some, Option.some.injEq] at h
                subst h
                refine ⟨?_, fun z => ?_⟩
                · show okK (tw X q)
                  unfold okK
                  rcases h6 with e | e <;> rw [e] <;> simp
                · have z' : tw X q = 2 := z
                  rcases h6 with e | e <;> rw [e] at z' <;> exact absurd z' (by decide)
              · cases h
            · rw [if_neg h6] at h
              split at h
              · rename_i hs
                simp only [isSg, decide_eq_true_eq] at hs
                simp only [Option.map_some, Option.some.injEq] at h
                subst h
                refine ⟨?_, fun z => ?_⟩
                · show okK (tw X q)
                  unfold okK
                  rcases hs with e | e | e | e | e | e | e | e | e | e | e | e | e <;> rw [e] <;> simp
                · have z' : tw X q = 2 := z
                  rcases hs with e | e | e | e | e | e | e | e | e | e | e | e | e <;> rw [e] at z' <;> exact absurd z' (by decide)
              · cases h
/-- a token that is neither an end nor a bad one -/
def TokF (X : List Int32) (a : AT) : Prop := okK a.k ∧ a.p < a.e ∧ a.e ≤ X.length ∧ (a.k = 2 → a.nm = cut X a.p a.e ∧ a.e = pend (tw X) X.length a.p ∧ isPl (tw X a.p) = true ∧ isDg (tw X a.p) = false ∧ a.e ≤ a.p + 31)
theorem lexS_f {X : List Int32} {q : Nat} {a : AT} {r : List AT} (hl : lexS X q = a :: r) : okK a.k ∨ a.k = 1 := by
  induction h : X.length - q using Nat.strongRecOn generalizing q with
  | _ n ih =>
    rw [lexS] at hl
    split at hl
    · rename_i hq
      split at hl
      · exact ih (X.length - (q + 1)) (by omega) hl rfl
      · split at hl
        · exact ih _ (by omega) hl rfl
        · split at hl
          · cases hl; exact Or.inr rfl
          · rename_i b hb
            split at hl
            · cases hl; exact Or.inl (tokC_f hb).1
            · cases hl
    · cases hl; exact Or.inl (by unfold okK; exact Or.inl rfl)
theorem lexS_F {X : List Int32} {q : Nat} {a : AT} {r : List AT} (hl : lexS X q = a :: r) (h0 : a.k ≠ 0) (h1 : a.k ≠ 1) : TokF X a ∧ r = lexS X a.e := by
  induction h : X.length - q using Nat.strongRecOn generalizing q with
  | _ n ih =>
    rw [lexS] at hl
    split at hl
    · rename_i hq
      split at hl
      · exact ih (X.length - (q + 1)) (by omega) hl rfl
      · split at hl
        · exact ih _ (by omega) hl rfl
        · split at hl
          · cases hl; exact absurd rfl h1
          · rename_i b hb
            obtain ⟨g1, g2, g3, g4⟩ := tokC_e hq hb
            rw [dif_pos g1] at hl
            injection hl with e1 e2
            subst e1
            subst e2
            obtain ⟨f1, f2⟩ := tokC_f hb
            refine ⟨⟨f1, by omega, g2, fun z => ?_⟩, rfl⟩
            obtain ⟨a1, a2, a3, a4, a5, a6⟩ := f2 z
            rw [a2, a3]
            exact ⟨a1, rfl, a4, a5, by omega⟩
    · cases hl; exact absurd rfl h0
theorem lexS_ne (X : List Int32) (q : Nat) : ∃ a r, lexS X q = a :: r := by
  induction h : X.length - q using Nat.strongRecOn generalizing q with
  | _ n ih =>
    rw [lexS]
    split
    · rename_i hq
      split
      · exact ih (X.length - (q + 1)) (by omega) (q + 1) rfl
      · split
        · exact ih _ (by omega) _ rfl
        · split
          · exact ⟨_, _, rfl⟩
          · rename_i b hb
            obtain ⟨g1, -⟩ := tokC_e hq hb
            rw [dif_pos g1]
            exact ⟨_, _, rfl⟩
    · exact ⟨_, _, rfl⟩
