theorem getD_mem {X : List Int32} {p : Nat} (h : p < X.length) : X.getD p 0 ∈ X := by
  rw [List.getD_eq_getElem?_getD, List.getElem?_eq_getElem h]
  exact List.getElem_mem h
theorem ok_ne0 {c : Int32} (h : okT c) : c ≠ 0 := by
  rintro rfl
  rcases h with h | h | h
  · exact absurd h (by decide)
  · exact absurd h (by decide)
  · exact absurd h.1 (by decide)
theorem cF_at (σ : CS) (j : Nat) (a : Int32) : (cF σ j a).1 j = a := if_pos rfl
theorem C_Lex_readCharacter_eq {sX sY sN sT sL : CS} {X : List Int32} (hX : RowL sX X) (hV : ∀ c ∈ X, okT c) {p : Nat} (hp : p ≤ X.length + 2) (hat : sL.1 0 = nI p) {q : Int32} (hq : q = 39 ∨ q = 34) : C_Lex_readCharacter q sL sX sY sN sT = some ((shownS (tw X) X.length p q).1, cF sL 0 (nI (shownS (tw X) X.length p q).2)) := by
  have hx1 := hX.cap; have hx2 := hX.big
  have q0 : q ≠ 0 := by rcases hq with rfl | rfl <;> decide
  have q10 : q ≠ 10 := by rcases hq with rfl | rfl <;> decide
  unfold C_Lex_readCharacter C_Lex_readCharacter_37 C_Lex_readCharacter_136 shownS
  rw [hat, C_get hX (by omega)]
  simp only [cr, Option.bind_some, bnd, cF_at, cF_same, nI_1]
  rw [C_get hX (show p + 1 < 2 ^ 31 by omega)]
  simp only [Option.bind_some]
  have i2 : (if X.getD p 0 = q then True else if X.getD p 0 = 10 then True else X.getD p 0 = 0) ↔ (ch (tw X) X.length p = 10 ∨ ch (tw X) X.length p = q) := by
    by_cases h : p < X.length
    · have e : ch (tw X) X.length p = X.getD p 0 := ch_in h
      have := ok_ne0 (hV _ (getD_mem h))
      rw [e]
      generalize X.getD p 0 = g at this ⊢
      by_cases a : g = q
      · simp [a]
      · by_cases b : g = 10
        · simp [b]
        · simp [a, b, this]
    · rw [ch_end (by omega), tw_out (by omega)]
      simp [Ne.symm q0]
  by_cases h1 : ch (tw X) X.length p = 10 ∨ ch (tw X) X.length p = q
  · have h2 := i2.mpr h1
    have lhs : ∀ (K : Option (Int32 × CS)), (if X.getD p 0 = q then some ((-1 : Int32), cF sL 0 (nI (p + 1))) else if X.getD p 0 = 10 then some (-1, cF sL 0 (nI (p + 1))) else if X.getD p 0 = 0 then some (-1, cF sL 0 (nI (p + 1))) else K) = some (-1, cF sL 0 (nI (p + 1))) := by
      intro K
      by_cases a : X.getD p 0 = q
      · rw [if_pos a]
      · by_cases b : X.getD p 0 = 10
        · rw [if_neg a, if_pos b]
        · rw [if_neg a, if_neg b] at h2
          rw [if_neg a, if_neg b, if_pos h2]
    rw [lhs]
    rcases h1 with h | h
    · simp [h]
    · rw [h]
      simp [q10]
  · have h2 : ¬ _ := fun z => h1 (i2.mp z)
    simp only [not_or] at h1
    have a : ¬ X.getD p 0 = q := fun a => h2 (by rw [if_pos a]; trivial)
    have b : ¬ X.getD p 0 = 10 := fun b => h2 (by rw [if_neg a, if_pos b]; trivial)
    have d : ¬ X.getD p 0 = 0 := fun d => h2 (by rw [if_neg a, if_neg b]; exact d)
    have hin : p < X.length := by
      by_cases h : p < X.length
      · exact h
      · exact absurd (tw_out (by omega)) d
    rw [if_neg a, if_neg b, if_neg d]
    simp only [h1.1, h1.2, if_false]
    rw [show ch (tw X) X.length p = X.getD p 0 from ch_in hin]
    by_cases e : X.getD p 0 = 92
    · have ne : ∀ c : Int32, c ≠ 0 → c ≠ 10 → (X.getD (p + 1) 0 = c ↔ ch (tw X) X.length (p + 1) = c) := fun c => eq_ch X (p + 1)
      rw [if_pos e, if_pos e]
      have n34 := ne 34 (by decide) (by decide)
      have n39 := ne 39 (by decide) (by decide)
      have n48 := ne 48 (by decide) (by decide)
      have n92 := ne 92 (by decide) (by decide)
      have n110 := ne 110 (by decide) (by decide)
      have n116 := ne 116 (by decide) (by decide)
      simp only [n34, n39, n48, n92, n110, n116]
      generalize X.getD (p + 1) 0 = g1 at *
      have val : ∀ c : Int32, c ≠ 0 → c ≠ 10 → ch (tw X) X.length (p + 1) = c → g1 = c := fun c h0 h10 h => (ne c h0 h10).mpr h
      by_cases c34 : ch (tw X) X.length (p + 1) = 34
      · simp [c34, val 34 (by decide) (by decide) c34]
      · by_cases c39 : ch (tw X) X.length (p + 1) = 39
        · simp [c39, val 39 (by decide) (by decide) c39]
        · by_cases c48 : ch (tw X) X.length (p + 1) = 48
          · simp [c48]
          · by_cases c92 : ch (tw X) X.length (p + 1) = 92
            · simp [c92, val 92 (by decide) (by decide) c92]
            · by_cases c110 : ch (tw X) X.length (p + 1) = 110
              · simp [c110]
              · by_cases c116 : ch (tw X) X.length (p + 1) = 116
                · simp [c116]
                · simp [c34, c39, c48, c92, c110, c116]
    · rw [if_neg e, if_neg e]
def chrC (T : Tk) : Option ((Int32 × Int32 × Int32) × Nat) := if T.k = 2 then some ((3, T.v.getD 0, 0), T.to) else none
theorem C_Lex_readQuoted_eq {sX sY sN sT sL : CS} {X : List Int32} (hX : RowL sX X) (hV : ∀ c ∈ X, okT c) {L : List (Int32 × Int32 × Int32)} {c : Nat} (hT : TokL sT L c) (hl : 2 * L.length + 64 ≤ 140000) {q : Nat} (hq : q < X.length) (hat : sL.1 0 = nI q) : NumPost sL sT L c (chrC (chrTk (tw X) X.length q)) (C_Lex_readQuoted sL sX sY sN sT) := by
  have hx1 := hX.cap; have hx2 := hX.big
  have hle := shownS_le (tw X) X.length (q + 1) 39
  unfold C_Lex_readQuoted C_Lex_readQuoted_56
  rw [hat, nI_1]
  simp only [bnd]
  rw [C_Lex_readCharacter_eq hX hV (p := q + 1) (by omega) (cF_at _ _ _) (Or.inl rfl), cF_same]
  unfold chrTk
  generalize hr : shownS (tw X) X.length (q + 1) 39 = r at *
  simp only [cl, Option.bind_some, cF_at]
  rw [nI_1, C_get hX (by omega), C_get hX (by omega)]
  simp only [cr, Option.bind_some, C_Lex_isOfName_eq, b2_0, isPl_ch, cF_same]
  have e39 := eq_ch X r.2 (c := 39) (by decide) (by decide)
  simp only [e39]
  by_cases hg : ¬ r.1 < 0 ∧ ch (tw X) X.length r.2 = 39 ∧ isPl (ch (tw X) X.length (r.2 + 1)) = false
  · rw [if_pos hg]
    obtain ⟨h1, h2, h3⟩ := hg
    obtain ⟨sT', c', dc, ds, e, h4, h5, h6, h7, -⟩ := C_Tok_add_eq hT hl 3 r.1 0
    simp only [h1, h2, h3, if_true, if_false]
    exact ⟨sT', c', dc, ds, ct0 e rfl, h4, h5, h6, h7⟩
  · rw [if_neg hg]
    by_cases h1 : r.1 < 0
    · rw [if_pos h1]; exact ⟨_, rfl⟩
    · rw [if_neg h1]
      by_cases h2 : ch (tw X) X.length r.2 = 39
      · rw [if_pos h2]
        have h3 : ¬ isPl (ch (tw X) X.length (r.2 + 1)) = false := fun h3 => hg ⟨h1, h2, h3⟩
        rw [if_neg h3]; exact ⟨_, rfl⟩
      · rw [if_neg h2]; exact ⟨_, rfl⟩
/-- a string's letters from k on, and where its closing quote stands -/
def strS (w : Nat → Int32) (n : Nat) (k : Nat) : Option (List Int32 × Nat) :=
  if ch w n k = 34 then some ([], k) else
    if (shownS w n k 34).1 < 0 then none else if h : k < n then (strS w n (shownS w n k 34).2).map (fun r => ((shownS w n k 34).1 :: r.1, r.2)) else none
termination_by n - k
decreasing_by have := shownS_le w n k 34; omega
theorem strS_quo (w : Nat → Int32) (n : Nat) : ∀ (m k : Nat), n - k ≤ m → (strS w n k).map (·.2) = quoS w n k := by
  intro m
  induction m with
  | zero =>
    intro k hm
    rw [strS, quoS]
    split
    · rfl
    · split
      · rfl
      · rw [dif_neg (by omega), dif_neg (by omega)]; rfl
  | succ m ih =>
    intro k hm
    rw [strS, quoS]
    have hle := shownS_le w n k 34
    split
    · rfl
    · split
      · rfl
      · by_cases hk : k < n
        · rw [dif_pos hk, dif_pos hk, ← ih _ (by omega), Option.map_map]
          rfl
        · rw [dif_neg hk, dif_neg hk]; rfl
def StrPost (sL sY sT : CS) (Y : List Int32) (L : List (Int32 × Int32 × Int32)) (c : Nat) (b : Nat) (tok : Option (List Int32 × Nat)) (r : Option ((Int32 × (CS × CS × CS)) × (Nat × Nat))) : Prop :=
  match tok with
  | some (s, k) => ∃ sY' sT' c' dc ds, r = some ((1, (cF sL 0 (nI (k + 1)), sY', sT')), (dc, ds)) ∧ RowL sY' (Y ++ s ++ [0]) ∧ TokL sT' (L ++ [(6, nI b, nI ((Y ++ s).length - b))]) c' ∧ sT'.1 2 = sT.1 2 ∧ ds + 6 * c + 2 * sY.2.2 0 ≤ 6 * c' + 2 * sY'.2.2 0 ∧ 64 * dc + 3 * c + sY.2.2 0 ≤ 3 * c' + sY'.2.2 0
  | none => ∃ sL' sY' Z dc ds, r = some ((0, (sL', sY', sT)), (dc, ds)) ∧ RowL sY' (Y ++ Z) ∧ Cost (sY.2.2 0) (sY'.2.2 0) dc ds
theorem ct1 {α σ β : Type} {o : Option ((α × σ) × (Nat × Nat))} {a : α} {u : σ} {d e d2 e2 : Nat} {k : α → σ → Option (β × (Nat × Nat))} {b : β} (h : o = some ((a, u), (d, e))) (hk : k a u = some (b, (d2, e2))) : ct o k = some (b, (d + d2, e + e2)) := by
  rw [h]
  simp [ct, hk]
theorem C_Lex_readString_26_eq {sX sN sT sL : CS} {X : List Int32} (hX : RowL sX X) (hV : ∀ c ∈ X, okT c) {L : List (Int32 × Int32 × Int32)} {c : Nat} (hT : TokL sT L c) (hl : 2 * L.length + 64 ≤ 140000) (N b : Nat) : ∀ (m k x : Nat) (sY : CS) (Y : List Int32), RowL sY Y → b ≤ Y.length → 2 * (Y.length + (X.length - k) + 1) + 64 ≤ 140000 → k ≤ X.length + 2 → X.length - k < m → X.length - k ≤ x → x < 2 ^ 30 → StrPost sL sY sT Y L c b (strS (tw X) X.length k) (C_Lex_readString_26 N m (nI b) (nI x) (cF sL 0 (nI k)) sX sY sN sT) := by
  have hx1 := hX.cap; have hx2 := hX.big
  intro m
  induction m with
  | zero => intro k x sY Y _ _ _ _ h; omega
  | succ m ih =>
    intro k x sY Y hY hbY hfit hk hm hx hx3
    rw [C_Lex_readString_26]
    show StrPost sL sY sT Y L c b _ (if nI x ≤ 0 then _ else _)
    have hle := shownS_le (tw X) X.length k 34
    -- the end
    have e34 := eq_ch X k (c := 34) (by decide) (by decide)
    have fin : ch (tw X) X.length k = 34 ∨ X.length ≤ k → StrPost sL sY sT Y L c b (strS (tw X) X.length k) (C_Lex_readString_87 N (nI b) (cF sL 0 (nI k)) sX sY sN sT) := by
      intro h
      unfold C_Lex_readString_87
      rw [cF_at, C_get hX (by omega)]
      simp only [cr, Option.bind_some, e34]
      by_cases h1 : ch (tw X) X.length k = 34
      · rw [if_pos h1, strS, if_pos h1]
        simp only [bnd, cF_same, nI_1]
        have hyc := hY.cnt; have hy1 := hY.cap; have hy2 := hY.big
        rw [hyc, pk_sub hbY]
        obtain ⟨sT', c', dc, ds, e, h4, h5, h6, h7, -⟩ := C_Tok_add_eq hT hl 6 (nI b) (nI (Y.length - b))
        obtain ⟨sY', d2, e2, a2, r2, ⟨k1, k2⟩, -⟩ := C_Row_add_eq hY (by omega) 0
        refine ⟨sY', sT', c', dc + d2, ds + e2, ct1 e (ct0 a2 rfl), ?_, ?_, h5, ?_, ?_⟩
        · simpa using r2
        · simpa using h4
        · omega
        · omega
      · have hk2 : X.length ≤ k := by
          rcases h with h | h
          · exact absurd h h1
          · exact h
        rw [if_neg h1, strS, if_neg h1]
        have : (shownS (tw X) X.length k 34).1 = -1 := by unfold shownS; rw [ch_end hk2]; rfl
        rw [if_pos (by rw [this]; decide)]
        exact ⟨_, sY, [], 0, 0, rfl, by simpa using hY, by unfold Cost; omega⟩
    by_cases h0 : nI x ≤ 0
    · rw [if_pos h0]
      have : x = 0 := by rw [show (0 : Int32) = nI 0 from rfl, nI_leI (by omega) (by omega)] at h0; omega
      exact fin (Or.inr (by omega))
    · rw [if_neg h0, hX.cnt, cF_at]
      by_cases h1 : nI X.length ≤ nI k
      · rw [if_pos h1]
        exact fin (Or.inr (by rw [nI_leI (by omega) (by omega)] at h1; exact h1))
      · have hkn : k < X.length := by rw [nI_leI (by omega) (by omega)] at h1; omega
        rw [if_neg h1, C_get hX (by omega)]
        simp only [cr, Option.bind_some, e34]
        by_cases h2 : ch (tw X) X.length k = 34
        · rw [if_pos h2]; exact fin (Or.inl h2)
        · rw [if_neg h2, C_Lex_readCharacter_eq hX hV (p := k) (by omega) (cF_at _ _ _) (Or.inr rfl), cF_same]
          simp only [cl, Option.bind_some]
          rw [strS, if_neg h2]
          by_cases h3 : (shownS (tw X) X.length k 34).1 < 0
          · rw [if_pos h3, if_neg (Int32.not_le.mpr h3)]
            exact ⟨_, sY, [], 0, 0, rfl, by simpa using hY, by unfold Cost; omega⟩
          · rw [if_neg h3, if_pos (Int32.not_lt.mp h3), dif_pos hkn]
            obtain ⟨sY', d2, e2, a2, r2, ⟨k1, k2⟩, -⟩ := C_Row_add_eq hY (by omega) (shownS (tw X) X.length k 34).1
            have ec : nI x + -1 = nI (x - 1) := by
              obtain ⟨x', rfl⟩ : ∃ x', x = x' + 1 := ⟨x - 1, by
                have : x ≠ 0 := fun e => h0 (by rw [e]; decide)
                omega⟩
              exact pk_m1 x'
            rw [ec]
            have hrc := ih (shownS (tw X) X.length k 34).2 (x - 1) sY' _ r2 (by simp; omega) (by simp; omega) (by omega) (by omega) (by omega) (by omega)
            cases hs : strS (tw X) X.length (shownS (tw X) X.length k 34).2 with
            | none =>
              rw [hs] at hrc
              obtain ⟨sL', sY'', Z, dc, ds, q1, q2, q3, q4⟩ := hrc
              simp only [Option.map_none]
              exact ⟨sL', sY'', [(shownS (tw X) X.length k 34).1] ++ Z, d2 + dc, e2 + ds, ct1 a2 q1, by simpa using q2, by omega, by omega⟩
            | some z =>
              obtain ⟨s, k'⟩ := z
              rw [hs] at hrc
              obtain ⟨sY'', sT', c', dc, ds, q1, q2, q3, q4, q5, q6⟩ := hrc
              simp only [Option.map_some]
              refine ⟨sY'', sT', c', d2 + dc, e2 + ds, ct1 a2 q1, by simpa using q2, ?_, q4, by omega, by omega⟩
              have : (Y ++ (shownS (tw X) X.length k 34).1 :: s).length = (Y ++ [(shownS (tw X) X.length k 34).1] ++ s).length := by simp
              rw [this]
              exact q3
