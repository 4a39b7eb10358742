/-- where a line ends: its newline, or the text's end -/
def lend (w : Nat → Int32) (n p : Nat) : Nat := if h : p < n ∧ w p ≠ 10 then lend w n (p + 1) else p
termination_by n - p
theorem lend_ge (w : Nat → Int32) (n p : Nat) : p ≤ lend w n p := by
  induction h : n - p generalizing p with
  | zero => rw [lend, dif_neg (by omega)]; exact Nat.le_refl _
  | succ k ih =>
    rw [lend]
    split
    · have := ih (p + 1) (by omega); omega
    · exact Nat.le_refl _
theorem lend_le (w : Nat → Int32) (n p : Nat) (hp : p ≤ n) : lend w n p ≤ n := by
  induction h : n - p generalizing p with
  | zero => rw [lend, dif_neg (by omega)]; exact hp
  | succ k ih =>
    rw [lend]
    split
    · exact ih (p + 1) (by omega) (by omega)
    · exact hp
theorem C_Lex_skipRemark_eq {sX sY sN sT sL : CS} {X : List Int32} (hX : RowL sX X) {N q : Nat} (hq : q ≤ X.length) (hat : sL.1 0 = nI q) (hN : X.length < N) : C_Lex_skipRemark N sL sX sY sN sT = some (0, cF sL 0 (nI (lend (tw X) X.length q))) := by
  have hx1 := hX.cap; have hx2 := hX.big
  have loop : ∀ (m k x : Nat), k ≤ X.length → X.length - k < m → X.length - k ≤ x → x < 2 ^ 30 → C_Lex_skipRemark_10 N m (nI X.length) (nI x) (cF sL 0 (nI k)) sX sY sN sT = some (0, cF sL 0 (nI (lend (tw X) X.length k))) := by
    intro m
    induction m with
    | zero => intro k x _ h; omega
    | succ m ih =>
      intro k x hk hm hx hx3
      rw [C_Lex_skipRemark_10]
      show (if nI x ≤ 0 then _ else _) = _
      unfold C_Lex_skipRemark_54
      rw [cF_at, lend]
      by_cases hkn : k < X.length
      · rw [if_neg (by rw [show (0 : Int32) = nI 0 from rfl, nI_leI (by omega) (by omega)]; omega), if_neg (by rw [nI_leI (by omega) (by omega)]; omega), C_get hX (by omega)]
        simp only [cr, Option.bind_some]
        by_cases hp : X.getD k 0 = 10
        · rw [if_pos hp, dif_neg (fun z => z.2 hp)]
        · rw [if_neg hp, dif_pos ⟨hkn, hp⟩]
          simp only [bnd, nI_1, cF_same]
          have ec : nI x + -1 = nI (x - 1) := by
            obtain ⟨x', rfl⟩ : ∃ x', x = x' + 1 := ⟨x - 1, by omega⟩
            exact pk_m1 x'
          rw [ec]
          exact ih (k + 1) (x - 1) (by omega) (by omega) (by omega) (by omega)
      · have : k = X.length := by omega
        subst this
        rw [dif_neg (by omega)]
        split
        · rfl
        · rw [if_pos (by rw [nI_leI (by omega) (by omega)]; omega)]
  unfold C_Lex_skipRemark
  rw [hX.cnt]
  have := loop N q X.length hq (by omega) (by omega) (by omega)
  rw [cF_self sL hat] at this
  exact this
/-- signs of one letter -/
def isSg (c : Int32) : Bool := decide (c = 58 ∨ c = 44 ∨ c = 40 ∨ c = 41 ∨ c = 43 ∨ c = 45 ∨ c = 42 ∨ c = 47 ∨ c = 37 ∨ c = 38 ∨ c = 124 ∨ c = 94 ∨ c = 126)
def sgnC (w : Nat → Int32) (n q : Nat) : Option ((Int32 × Int32 × Int32) × Nat) :=
  let c := w q
  if c = 10 then some ((0, 0, 0), q + 1) else if c = 60 ∨ c = 62 then (if ch w n (q + 1) = c then some ((c, 0, 0), q + 2) else none) else if isSg c = true then some ((c, 0, 0), q + 1) else none
theorem C_Lex_readSign_eq {sX sY sN sT sL : CS} {X : List Int32} (hX : RowL sX X) {L : List (Int32 × Int32 × Int32)} {c : Nat} (hT : TokL sT L c) (hl : 2 * L.length + 64 ≤ 140000) {q : Nat} (hq : q < X.length) (hat : sL.1 0 = nI q) : NumPost sL sT L c (sgnC (tw X) X.length q) (C_Lex_readSign (X.getD q 0) sL sX sY sN sT) := by
  have hx1 := hX.cap; have hx2 := hX.big
  have key : ∀ (t : Int32) (e : Nat) (x : Int32), sL.1 0 + x = nI e → NumPost sL sT L c (some ((t, 0, 0), e)) (ct (C_Tok_add t 0 0 sT) (fun r1 u2 => bnd (cF sL 0 (sL.1 0 + x)) (fun sL8 => some (((1 : Int32), (sL8, u2)), (0, 0))))) := by
    intro t e x hx
    obtain ⟨sT', c', dc, ds, e1, h4, h5, h6, h7, -⟩ := C_Tok_add_eq hT hl t 0 0
    exact ⟨sT', c', dc, ds, ct0 e1 (by simp only [bnd, hx]), h4, h5, h6, h7⟩
  have one : sL.1 0 + 1 = nI (q + 1) := by rw [hat, nI_1]
  have two : sL.1 0 + 2 = nI (q + 2) := by rw [hat]; exact nI_add q 2
  have w1 : ∀ t : Int32, NumPost sL sT L c (some ((t, 0, 0), q + 1)) (C_Lex_readSign_162 t sL sX sY sN sT) := fun t => key t (q + 1) 1 one
  have w2 : ∀ t : Int32, t ≠ 0 → t ≠ 10 → NumPost sL sT L c (if ch (tw X) X.length (q + 1) = t then some ((t, 0, 0), q + 2) else none) (C_Lex_readSign_184 t sL sX sY sN sT) := by
    intro t h0 h10
    unfold C_Lex_readSign_184
    rw [hat, nI_1, C_get hX (by omega)]
    simp only [cr, Option.bind_some, eq_ch X (q + 1) h0 h10]
    by_cases h : ch (tw X) X.length (q + 1) = t
    · rw [if_pos h, if_pos h]
      have := key t (q + 2) 2 two
      rw [hat] at this
      exact this
    · rw [if_neg h, if_neg h]
      exact ⟨_, rfl⟩
  unfold C_Lex_readSign sgnC
  show NumPost sL sT L c (if X.getD q 0 = 10 then _ else _) _
  rw [show tw X q = X.getD q 0 from rfl]
  generalize X.getD q 0 = g
  by_cases h10 : g = 10
  · rw [if_pos h10, if_pos h10]; exact key 0 (q + 1) 1 one
  · rw [if_neg h10, if_neg h10]
    by_cases h2 : g = 60 ∨ g = 62
    · rw [if_pos h2]
      rcases h2 with h | h
      · subst h; exact w2 60 (by decide) (by decide)
      · subst h; exact w2 62 (by decide) (by decide)
    · rw [if_neg h2]
      simp only [not_or] at h2
      by_cases h3 : isSg g = true
      · rw [if_pos h3]
        simp only [isSg, decide_eq_true_eq] at h3
        rcases h3 with h | h | h | h | h | h | h | h | h | h | h | h | h <;> subst h <;> exact w1 _
      · rw [if_neg h3]
        simp only [isSg, decide_eq_true_eq, not_or] at h3
        obtain ⟨b1, b2, b3, b4, b5, b6, b7, b8, b9, b10, b11, b12, b13⟩ := h3
        simp only [b1, b2, b3, b4, b5, b6, b7, b8, b9, b10, b11, b12, b13, h2.1, h2.2, if_false]
        exact ⟨_, rfl⟩
/-- a token of the text: its kind as the class has it, a name's letters, a number, a string's letters, where it begins and ends -/
abbrev AT : Type := (Int32) × (List Int32) × (Int32) × (List Int32) × (Nat) × (Nat)
abbrev AT.k (T : AT) : Int32 := T.1
abbrev AT.nm (T : AT) : List Int32 := T.2.1
abbrev AT.v (T : AT) : Int32 := T.2.2.1
abbrev AT.s (T : AT) : List Int32 := T.2.2.2.1
abbrev AT.p (T : AT) : Nat := T.2.2.2.2.1
abbrev AT.e (T : AT) : Nat := T.2.2.2.2.2
/-- the token at q, where neither a blank nor a remark nor a line's end stands; none: a bad one -/
def tokC (X : List Int32) (q : Nat) : Option AT :=
  let w := tw X
  let n := X.length
  let c := w q
  if isDg c = true then (numC w q (digTk w q (pend w n q))).map (fun t => ⟨t.1.1, [], t.1.2.1, [], q, t.2⟩)
  else if isPl c = true then (if q + 31 < pend w n q then none else some ⟨2, cut X q (pend w n q), 0, [], q, pend w n q⟩)
  else if c = 39 then (chrC (chrTk w n q)).map (fun t => ⟨t.1.1, [], t.1.2.1, [], q, t.2⟩)
  else if c = 34 then (strS w n (q + 1)).map (fun t => ⟨6, [], 0, t.1, q, t.2 + 1⟩)
  else (sgnC w n q).map (fun t => ⟨t.1.1, [], 0, [], q, t.2⟩)
