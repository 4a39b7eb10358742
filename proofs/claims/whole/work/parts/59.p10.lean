/-! ===== the reference's scanner over the class's tokens ===== -/
theorem skipB_ge (w : Nat → Int32) (n q : Nat) : q ≤ skipB w n q := by
  induction h : n - q generalizing q with
  | zero => rw [skipB, dif_neg (by omega)]; exact Nat.le_refl _
  | succ k ih =>
    rw [skipB]
    split
    · have := ih (q + 1) (by omega); omega
    · exact Nat.le_refl _
theorem skipB_le (w : Nat → Int32) (n q : Nat) (hq : q ≤ n) : skipB w n q ≤ n := by
  induction h : n - q generalizing q with
  | zero => rw [skipB, dif_neg (by omega)]; exact hq
  | succ k ih =>
    rw [skipB]
    split
    · exact ih (q + 1) (by omega) (by omega)
    · exact hq
theorem skipB_at (w : Nat → Int32) (n q : Nat) : ¬ (skipB w n q < n ∧ (w (skipB w n q) = 9 ∨ w (skipB w n q) = 32)) := by
  induction h : n - q generalizing q with
  | zero => rw [skipB, dif_neg (by omega)]; omega
  | succ k ih =>
    rw [skipB]
    split
    · exact ih (q + 1) (by omega)
    · assumption
theorem lexS_skip (X : List Int32) (q : Nat) : lexS X q = lexS X (skipB (tw X) X.length q) := by
  induction h : X.length - q generalizing q with
  | zero => rw [skipB, dif_neg (by omega)]
  | succ k ih =>
    rw [skipB]
    split
    · rename_i hb
      rw [lexS, dif_pos hb.1, if_pos (show X.getD q 0 = 32 ∨ X.getD q 0 = 9 from hb.2.symm)]
      exact ih (q + 1) (by omega)
    · rfl
/-- a class's kind as the reference has it -/
def rk (k : Int32) : Int32 := if k = 2 then 1 else if k = 3 ∨ k = 4 then 2 else if k = 5 then 3 else if k = 6 then 4 else if k = 60 then 6 else if k = 62 then 7 else k
/-- the reference's token T at q is the class's a -/
def TkA (X : List Int32) (T : Tk) (a : AT) : Prop :=
  (a.k = 0 → T = ⟨0, a.p, none⟩) ∧ (a.k ≠ 0 → T.k = rk a.k ∧ T.to = a.e ∧ (a.k = 3 ∨ a.k = 4 → T.v = some a.v) ∧ (a.k = 5 → ∃ d : Int32, T.v = some d ∧ d = tw X a.p - 48 ∧ isDg (tw X a.p) = true ∧ a.e = a.p + 2 ∧ a.v = 2 * d + (if tw X (a.p + 1) = 102 then 1 else 0)))
theorem tkA_mk {X : List Int32} {T : Tk} {k : Int32} {nm : List Int32} {v : Int32} {s : List Int32} {p e : Nat} (h0 : k ≠ 0) (hk : T.k = rk k) (ht : T.to = e) (hv : k = 3 ∨ k = 4 → T.v = some v) (h5 : k = 5 → ∃ d : Int32, T.v = some d ∧ d = tw X p - 48 ∧ isDg (tw X p) = true ∧ e = p + 2 ∧ v = 2 * d + (if tw X (p + 1) = 102 then 1 else 0)) : TkA X T ⟨k, nm, v, s, p, e⟩ := ⟨fun z => absurd z h0, fun _ => ⟨hk, ht, hv, h5⟩⟩
theorem digTk_k (w : Nat → Int32) (q e : Nat) : ((digTk w q e).k = 3 ∧ (digTk w q e).to = e ∧ (digTk w q e).v = some (w q - 48) ∧ e = q + 2) ∨ ((digTk w q e).k = 2 ∧ (digTk w q e).to = e ∧ ∃ v, (digTk w q e).v = some v) ∨ ((digTk w q e).k = 5 ∧ (digTk w q e).to = q) := by
  unfold digTk
  generalize (if q + 1 < e then w (q + 1) else 0) = s
  by_cases h : e = q + 2 ∧ (s = 102 ∨ s = 98)
  · rw [if_pos h]; exact Or.inl ⟨rfl, rfl, rfl, h.1⟩
  · rw [if_neg h]
    generalize (if w q = 48 ∧ s = 120 then numeralS w (q + 2) e 16 else if w q = 48 ∧ s = 98 then numeralS w (q + 2) e 2 else numeralS w q e 10) = r
    cases r with
    | some v => exact Or.inr (Or.inl ⟨rfl, rfl, _, rfl⟩)
    | none => exact Or.inr (Or.inr ⟨rfl, rfl⟩)
theorem chrTk_k (w : Nat → Int32) (n q : Nat) : ((chrTk w n q).k = 2 ∧ ∃ v, (chrTk w n q).v = some v) ∨ ((chrTk w n q).k = 5 ∧ (chrTk w n q).to = q) := by
  unfold chrTk
  generalize shownS w n (q + 1) 39 = r
  show (Tk.k (if ¬ r.1 < 0 ∧ ch w n r.2 = 39 ∧ isPl (ch w n (r.2 + 1)) = false then (⟨2, r.2 + 1, some r.1⟩ : Tk) else bad q (some r.1)) = 2 ∧ _) ∨ _
  by_cases h : ¬ r.1 < 0 ∧ ch w n r.2 = 39 ∧ isPl (ch w n (r.2 + 1)) = false
  · rw [if_pos h]; exact Or.inl ⟨rfl, _, rfl⟩
  · rw [if_neg h]; exact Or.inr ⟨rfl, rfl⟩
theorem tok_rel (X : List Int32) {q : Nat} (hq : q < X.length) (h35 : ¬ tw X q = 35) : match tokC X q with
    | none => (tokAt (tw X) X.length q).k = 5 ∧ (tokAt (tw X) X.length q).to = q
    | some a => a.p = q ∧ TkA X (tokAt (tw X) X.length q) a := by
  have hc : ch (tw X) X.length q = tw X q := if_pos hq
  unfold tokC tokAt
  simp only [hc, h35, or_false]
  by_cases h10 : tw X q = 10
  · simp only [h10]
    simp only [show isDg 10 = false from by decide, show isPl 10 = false from by decide, Bool.false_eq_true, if_false, show ¬ ((10 : Int32) = 39) from by decide, show ¬ ((10 : Int32) = 34) from by decide, if_true]
    unfold sgnC
    simp only [h10, if_true, Option.map_some]
    exact ⟨by first | trivial | rfl, fun _ => rfl, fun z => absurd rfl z⟩
  · simp only [h10, if_false]
    by_cases hd : isDg (tw X q) = true
    · simp only [hd, if_true]
      rcases digTk_k (tw X) q (pend (tw X) X.length q) with ⟨k1, k2, k3, k4⟩ | ⟨k1, k2, v, k3⟩ | ⟨k1, k2⟩
      · unfold numC
        rw [if_pos k1]
        simp only [Option.map_some]
        refine ⟨by first | trivial | rfl, tkA_mk (by decide) (by rw [k1]; rfl) rfl (fun z => absurd z (by decide)) (fun _ => ⟨_, k3, rfl, hd, by rw [k2, k4], rfl⟩)⟩
      · unfold numC
        rw [if_neg (by rw [k1]; decide), if_pos k1]
        simp only [Option.map_some]
        by_cases h1 : (digTk (tw X) q (pend (tw X) X.length q)).to = q + 1
        · simp only [h1, if_true]
          exact ⟨by first | trivial | rfl, tkA_mk (by decide) (by rw [k1]; rfl) h1 (fun _ => by rw [k3]; rfl) (fun z => absurd z (by decide))⟩
        · simp only [h1, if_false]
          exact ⟨by first | trivial | rfl, tkA_mk (by decide) (by rw [k1]; rfl) rfl (fun _ => by rw [k3]; rfl) (fun z => absurd z (by decide))⟩
      · unfold numC
        rw [if_neg (by rw [k1]; decide), if_neg (by rw [k1]; decide)]
        exact ⟨k1, k2⟩
    · simp only [hd, if_false]
      by_cases hp : isPl (tw X q) = true
      · simp only [hp, if_true]
        by_cases hl : q + 31 < pend (tw X) X.length q
        · simp only [hl, if_true]; exact ⟨rfl, rfl⟩
        · simp only [hl, if_false]
          exact ⟨by first | trivial | rfl, tkA_mk (by decide) rfl rfl (fun z => absurd z (by decide)) (fun z => absurd z (by decide))⟩
      · simp only [hp, if_false]
        by_cases h39 : tw X q = 39
        · simp only [h39, if_true, Bool.false_eq_true, if_false]
          rcases chrTk_k (tw X) X.length q with ⟨k1, v, k3⟩ | ⟨k1, k2⟩
          · unfold chrC
            rw [if_pos k1]
            simp only [Option.map_some]
            exact ⟨by first | trivial | rfl, tkA_mk (by decide) (by rw [k1]; rfl) rfl (fun _ => by rw [k3]; rfl) (fun z => absurd z (by decide))⟩
          · unfold chrC
            rw [if_neg (by rw [k1]; decide)]
            exact ⟨k1, k2⟩
        · simp only [h39, if_false]
          by_cases h34 : tw X q = 34
          · simp only [h34, if_true]
            have hs := strS_quo (tw X) X.length (X.length - (q + 1)) (q + 1) (Nat.le_refl _)
            unfold strTk
            rw [← hs]
            cases strS (tw X) X.length (q + 1) with
            | none => exact ⟨rfl, rfl⟩
            | some r => exact ⟨by first | trivial | rfl, tkA_mk (by decide) rfl rfl (fun z => absurd z (by decide)) (fun z => absurd z (by decide))⟩
          · simp only [h34, if_false]
            unfold sgnC
            simp only [h10, if_false]
            by_cases h6 : tw X q = 60 ∨ tw X q = 62
            · simp only [h6, if_true]
              by_cases h2 : ch (tw X) X.length (q + 1) = tw X q
              · simp only [h2, if_true, Option.map_some]
                rcases h6 with e | e
                · rw [e]
                  exact ⟨by first | trivial | rfl, tkA_mk (by decide) rfl rfl (fun z => absurd z (by decide)) (fun z => absurd z (by decide))⟩
                · rw [e]
                  exact ⟨by first | trivial | rfl, tkA_mk (by decide) rfl rfl (fun z => absurd z (by decide)) (fun z => absurd z (by decide))⟩
              · simp only [h2, if_false]; exact ⟨rfl, rfl⟩
            · simp only [h6, if_false]
              by_cases hs : isSg (tw X q) = true
              · have hs' := hs
                simp only [isSg, decide_eq_true_eq] at hs'
                simp only [hs, hs', if_true, Option.map_some]
                have key : ∀ c : Int32, c = 58 ∨ c = 44 ∨ c = 40 ∨ c = 41 ∨ c = 43 ∨ c = 45 ∨ c = 42 ∨ c = 47 ∨ c = 37 ∨ c = 38 ∨ c = 124 ∨ c = 94 ∨ c = 126 → c ≠ 0 ∧ rk c = c ∧ c ≠ 3 ∧ c ≠ 4 ∧ c ≠ 5 := by
                  intro c h
                  rcases h with h | h | h | h | h | h | h | h | h | h | h | h | h <;> subst h <;> decide
                obtain ⟨g1, g2, g3, g4, g5⟩ := key _ hs'
                exact ⟨by first | trivial | rfl, tkA_mk g1 g2.symm rfl (fun z => by rcases z with z | z; exact absurd z g3; exact absurd z g4) (fun z => absurd z g5)⟩
              · have hs' := hs
                simp only [isSg, decide_eq_true_eq] at hs'
                simp only [hs, hs', if_false]; exact ⟨rfl, rfl⟩
/-- what scan() makes of the state where the tokens a, .. lie ahead -/
def SC (σ σ' : MS) (X : List Int32) (q : Nat) (a : AT) : Prop :=
  (∀ j, j ≠ 9 → j ≠ 10 → j ≠ 11 → j ≠ 12 → j ≠ 13 → σ'.1 j = σ.1 j) ∧ σ'.2 = σ.2 ∧
  (a.k = 0 → σ'.1 10 = 0 ∧ ∃ q', q ≤ q' ∧ q' ≤ X.length ∧ σ'.1 9 = nI q' ∧ σ'.1 11 = nI q' ∧ σ'.1 12 = nI q' ∧ lexS X q' = lexS X q ∧ q' = skipB (tw X) X.length q) ∧
  (a.k = 1 → σ'.1 10 = 5 ∧ ∃ q', q ≤ q' ∧ q' ≤ X.length ∧ σ'.1 9 = nI q') ∧
  (a.k ≠ 0 → a.k ≠ 1 → σ'.1 10 = rk a.k ∧ σ'.1 9 = nI a.e ∧ σ'.1 11 = nI a.p ∧ σ'.1 12 = nI a.e ∧ (a.k = 3 ∨ a.k = 4 → σ'.1 13 = a.v) ∧ (a.k = 5 → ∃ d : Int32, σ'.1 13 = d ∧ d = tw X a.p - 48 ∧ isDg (tw X a.p) = true ∧ a.e = a.p + 2 ∧ a.v = 2 * d + (if tw X (a.p + 1) = 102 then 1 else 0)) ∧ q ≤ a.p ∧ a.p < a.e ∧ a.e ≤ X.length ∧ a.p = skipB (tw X) X.length q)
theorem lexS_end {X : List Int32} {p : Nat} (h : X.length ≤ p) : lexS X p = [endA p] := by
  rw [lexS, dif_neg (by omega)]
theorem lend_at (w : Nat → Int32) (n p : Nat) : ¬ (lend w n p < n ∧ w (lend w n p) ≠ 10) := by
  induction h : n - p generalizing p with
  | zero => rw [lend, dif_neg (by omega)]; omega
  | succ k ih =>
    rw [lend]
    split
    · exact ih (p + 1) (by omega)
    · assumption
theorem lexS_nl {X : List Int32} {p : Nat} (hp : p < X.length) (h : tw X p = 10) : lexS X p = ⟨0, [], 0, [], p, p + 1⟩ :: lexS X (p + 1) := by
  have e : X.getD p 0 = 10 := h
  rw [lexS, dif_pos hp, if_neg (by rw [e]; decide), if_neg (by rw [e]; decide)]
  have ht : tokC X p = some ⟨0, [], 0, [], p, p + 1⟩ := by
    unfold tokC
    simp only [h, show isDg 10 = false from by decide, show isPl 10 = false from by decide, Bool.false_eq_true, if_false, show ¬ ((10 : Int32) = 39) from by decide, show ¬ ((10 : Int32) = 34) from by decide]
    unfold sgnC
    simp only [h, if_true, Option.map_some]
  rw [ht]
  show (if h : p < p + 1 then _ else _) = _
  rw [dif_pos (Nat.lt_succ_self p)]
theorem M_scanA {σ : MS} {X : List Int32} {N q : Nat} (T : TX σ (tw X) X.length) (hN : X.length + 2 < N) (hq : q ≤ X.length) (hat : σ.1 9 = nI q) {a : AT} {r : List AT} (hl : lexS X q = a :: r) : ∃ σ', M_scan N σ = some (0, σ') ∧ SC σ σ' X q a ∧ (a.k ≠ 0 → a.k ≠ 1 → r = lexS X a.e) := by
  have hn := T.small
  refine ⟨_, M_scan_eq T hN (by omega) hat, ?_⟩
  have h1 := skipB_ge (tw X) X.length q
  have h2 := skipB_le (tw X) X.length q hq
  have h3 := skipB_at (tw X) X.length q
  have hls := hl
  rw [lexS_skip] at hl
  generalize hq' : skipB (tw X) X.length q = q' at hl h1 h2 h3
  have fr : ∀ T0 : Tk, (∀ j, j ≠ 9 → j ≠ 10 → j ≠ 11 → j ≠ 12 → j ≠ 13 → (tkS σ q' T0).1 j = σ.1 j) ∧ (tkS σ q' T0).2 = σ.2 := fun T0 => ⟨fun j a b c d e => by simp [tkS, sc, a, b, c, d, e], rfl⟩
  have done0 : (tokAt (tw X) X.length q') = ⟨0, q', none⟩ → a.k = 0 → SC σ (tkS σ q' (tokAt (tw X) X.length q')) X q a ∧ (a.k ≠ 0 → a.k ≠ 1 → r = lexS X a.e) := by
    intro e ea
    rw [e]
    refine ⟨⟨(fr _).1, (fr _).2, fun _ => ⟨rfl, q', h1, h2, rfl, rfl, rfl, ?_, hq'.symm⟩, fun z => absurd (ea.symm.trans z) (by decide), fun z => absurd ea z⟩, fun z => absurd ea z⟩
    rw [hl, hls]
  by_cases hend : q' < X.length
  · have hc : ch (tw X) X.length q' = tw X q' := if_pos hend
    by_cases h35 : tw X q' = 35
    · have e0 : tokAt (tw X) X.length q' = ⟨0, q', none⟩ := by
        unfold tokAt
        simp only [hc, h35, or_true, if_true]
      refine done0 e0 ?_
      have g35 : X.getD q' 0 = 35 := h35
      rw [lexS, dif_pos hend, if_neg (by rw [g35]; decide), if_pos g35] at hl
      have hb : q' + 1 ≤ lend (tw X) X.length q' := by
        rw [lend, dif_pos ⟨hend, by rw [h35]; decide⟩]
        exact lend_ge _ _ _
      rw [Nat.max_eq_left hb] at hl
      have hle := lend_le (tw X) X.length q' (by omega)
      have hla := lend_at (tw X) X.length q'
      generalize lend (tw X) X.length q' = e at hl hle hla
      by_cases he : e < X.length
      · have h10 : tw X e = 10 := Decidable.not_not.mp (fun z => hla ⟨he, z⟩)
        rw [lexS_nl he h10] at hl
        cases hl; rfl
      · rw [lexS_end (by omega)] at hl
        cases hl; rfl
    · have hr := tok_rel X hend h35
      have gb : ¬ (X.getD q' 0 = 32 ∨ X.getD q' 0 = 9) := fun z => h3 ⟨hend, z.symm⟩
      rw [lexS, dif_pos hend, if_neg gb, if_neg (show ¬ X.getD q' 0 = 35 from h35)] at hl
      cases ht : tokC X q' with
      | none =>
        rw [ht] at hr hl
        have hr' : (tokAt (tw X) X.length q').k = 5 ∧ (tokAt (tw X) X.length q').to = q' := hr
        cases hl
        exact ⟨⟨(fr _).1, (fr _).2, fun z => absurd (show (1 : Int32) = 0 from z) (by decide), fun _ => ⟨hr'.1, q', h1, h2, by show nI (tokAt _ _ _).to = _; rw [hr'.2]⟩, fun _ z => absurd rfl z⟩, fun _ z => absurd rfl z⟩
      | some b =>
        rw [ht] at hr hl
        obtain ⟨hp, hz, hnz⟩ := (show b.p = q' ∧ TkA X (tokAt (tw X) X.length q') b from hr)
        obtain ⟨g1, g2, g3, g4⟩ := tokC_e hend ht
        have hl' : (if h : q' < b.e then b :: lexS X b.e else []) = a :: r := hl
        rw [dif_pos g1] at hl'
        injection hl' with e1 e2
        subst e1
        subst e2
        by_cases ha : b.k = 0
        · have et := hz ha
          rw [hp] at et
          rw [et]
          refine ⟨⟨(fr _).1, (fr _).2, fun _ => ⟨rfl, q', h1, h2, rfl, rfl, rfl, ?_, hq'.symm⟩, fun z => absurd z g4, fun z => absurd ha z⟩, fun z => absurd ha z⟩
          rw [← hq', ← lexS_skip]
        · obtain ⟨k1, k2, k3, k4⟩ := hnz ha
          refine ⟨⟨(fr _).1, (fr _).2, fun z => absurd z ha, fun z => absurd z g4, fun _ _ => ⟨k1, by show nI (tokAt _ _ _).to = _; rw [k2], by show nI q' = nI b.p; rw [g3], by show nI (tokAt _ _ _).to = _; rw [k2], fun z => by show (tokAt _ _ _).v.getD _ = _; rw [k3 z]; rfl, fun z => ?_, by omega, by omega, g2, by rw [g3, hq']⟩⟩, fun _ _ => rfl⟩
          obtain ⟨d, e1, e2, e3, e4, e5⟩ := k4 z
          exact ⟨d, by show (tokAt _ _ _).v.getD _ = _; rw [e1]; rfl, e2, e3, e4, e5⟩
  · have e0 : tokAt (tw X) X.length q' = ⟨0, q', none⟩ := by
      unfold tokAt
      simp only [ch_end (show X.length ≤ q' by omega), true_or, if_true]
    refine done0 e0 ?_
    rw [lexS_end (by omega)] at hl
    cases hl; rfl
