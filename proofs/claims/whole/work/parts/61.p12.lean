/-! ===== expressions: the class's order of steps, and the reference's pile ===== -/
def levN (s : Int32) : Nat := if s = 10 ∨ s = 11 ∨ s = 12 ∨ s = 13 then 7 else if s = 42 ∨ s = 47 ∨ s = 37 then 6 else if s = 43 ∨ s = 45 then 5 else if s = 60 ∨ s = 62 then 4 else if s = 38 then 3 else if s = 94 then 2 else if s = 124 then 1 else 0
def rnk (x : Int32) : Nat := if x = 42 ∨ x = 47 ∨ x = 37 then 6 else if x = 43 ∨ x = 45 then 5 else if x = 6 ∨ x = 7 then 4 else if x = 38 then 3 else if x = 94 then 2 else if x = 124 then 1 else 0
def sg (s : Int32) : Int32 := if s = 40 then 1 else if s = 10 then 2 else if s = 11 then 3 else if s = 12 then 4 else if s = 13 then 5 else if s = 60 then 6 else if s = 62 then 7 else s
def okS (s : Int32) : Prop := s = 40 ∨ s = 10 ∨ s = 11 ∨ s = 12 ∨ s = 13 ∨ s = 42 ∨ s = 47 ∨ s = 37 ∨ s = 43 ∨ s = 45 ∨ s = 60 ∨ s = 62 ∨ s = 38 ∨ s = 94 ∨ s = 124
theorem okS_facts {s : Int32} (h : okS s) : (rnk (sg s) = if levN s = 7 then 0 else levN s) ∧ (isU (sg s) = decide (levN s = 7)) ∧ (sg s = 1 ↔ s = 40) ∧ (levN s = 0 ↔ s = 40) := by
  rcases h with h | h | h | h | h | h | h | h | h | h | h | h | h | h | h <;> subst h <;> decide
theorem M_rank_eq (x : Int32) : M_rank x = some (nI (rnk x)) := by
  unfold M_rank M_rank_18 M_rank_35 M_rank_51 M_rank_86 rnk
  by_cases c1 : x = 42
  · simp only [c1, if_true, true_or]; rfl
  by_cases c2 : x = 47
  · subst c2; rfl
  by_cases c3 : x = 37
  · subst c3; rfl
  by_cases c4 : x = 43
  · subst c4; rfl
  by_cases c5 : x = 45
  · subst c5; rfl
  by_cases c6 : x = 6
  · subst c6; rfl
  by_cases c7 : x = 7
  · subst c7; rfl
  by_cases c8 : x = 38
  · subst c8; rfl
  by_cases c9 : x = 94
  · subst c9; rfl
  by_cases c10 : x = 124
  · subst c10; rfl
  simp only [c1, c2, c3, c4, c5, c6, c7, c8, c9, c10, if_false, or_self]
  rfl
/-- a step: what the class keeps in its two rows, the token in place of a number -/
abbrev XSt : Type := Int32 × AT
def nilA : AT := ⟨0, [], 0, [], 0, 0⟩
def isOp (k : Int32) : Bool := decide (k = 3 ∨ k = 2 ∨ k = 7 ∨ k = 8 ∨ k = 9)
abbrev EvS : Type := List Int32 × Bool × Bool
def evs (η : Int32 → AT → Int32 × Bool) (V : EvS) (s : XSt) : EvS :=
  if isOp s.1 = true then ((η s.1 s.2).1 :: V.1, V.2.1 || (η s.1 s.2).2, V.2.2)
  else if levN s.1 = 7 then (match V.1 with
    | v :: W => (un (sg s.1) v :: W, V.2)
    | [] => V)
  else match V.1 with
    | b :: a :: W => (wk (sg s.1) a b :: W, V.2.1, V.2.2 || dvz (sg s.1) b)
    | _ => V
def evR (η : Int32 → AT → Int32 × Bool) (R : List XSt) : EvS := R.foldl (evs η) ([], false, false)
theorem evR_app (η : Int32 → AT → Int32 × Bool) (R : List XSt) (s : XSt) : evR η (R ++ [s]) = evs η (evR η R) s := by simp [evR]
def stl (l : Nat) : List Int32 → List XSt → List Int32 × List XSt
  | [], R => ([], R)
  | s :: S, R => if levN s < l then (s :: S, R) else stl l S (R ++ [(s, nilA)])
/-- binary signs -/
def isB2 (s : Int32) : Bool := decide (0 < levN s) && decide (levN s < 7)
def nB (S : List Int32) : Nat := (S.filter (fun s => isB2 s)).length
/-- under a binary sign stands no unary one -/
def WFs : List Int32 → Prop
  | [] => True
  | s :: S => okS s ∧ (isB2 s = true → ∀ t, S.head? = some t → levN t ≠ 7) ∧ WFs S
theorem okS_op {s : Int32} (h : okS s) : isOp s = false := by
  rcases h with h | h | h | h | h | h | h | h | h | h | h | h | h | h | h <;> subst h <;> decide
/-- unary signs on top: the class's steps for them, and what they make of the value -/
def topU : List Int32 → List Int32
  | [] => []
  | s :: S => if levN s = 7 then s :: topU S else []
def restU : List Int32 → List Int32
  | [] => []
  | s :: S => if levN s = 7 then restU S else s :: S
theorem restU_drU : ∀ S : List Int32, WFs S → drU (S.map sg) = (restU S).map sg
  | [], _ => rfl
  | s :: S, h => by
    have f := (okS_facts h.1).2.1
    simp only [List.map_cons, drU, restU]
    by_cases c : levN s = 7
    · rw [if_pos c, f, if_pos (by simp [c])]
      exact restU_drU S h.2.2
    · rw [if_neg c, f, if_neg (by simp [c])]
      rfl
theorem restU_wf : ∀ S : List Int32, WFs S → WFs (restU S)
  | [], _ => trivial
  | s :: S, h => by
    simp only [restU]
    split
    · exact restU_wf S h.2.2
    · exact h
theorem restU_top (S : List Int32) : ∀ t, (restU S).head? = some t → levN t ≠ 7 := by
  induction S with
  | nil => intro t h; cases h
  | cons s S ih =>
    intro t h
    simp only [restU] at h
    split at h
    · exact ih t h
    · rename_i c
      cases h
      exact c
theorem nB_restU : ∀ S : List Int32, nB (restU S) = nB S
  | [] => rfl
  | s :: S => by
    simp only [restU]
    split
    · rename_i c
      rw [nB_restU S]
      simp [nB, isB2, c]
    · rfl
theorem restU_len : ∀ S : List Int32, (restU S).length ≤ S.length
  | [] => Nat.le_refl _
  | s :: S => by
    simp only [restU]
    split
    · have := restU_len S; simp; omega
    · exact Nat.le_refl _
/-- settling first puts the unary signs out -/
theorem stl_un (η : Int32 → AT → Int32 × Bool) {l : Nat} (hl : l ≤ 7) : ∀ (S : List Int32) (R : List XSt) (v : Int32) (W : List Int32) (x : Bool × Bool), WFs S → evR η R = (v :: W, x) → ∃ R', stl l S R = stl l (restU S) R' ∧ evR η R' = (apU (S.map sg) v :: W, x) ∧ R'.length + (restU S).length = R.length + S.length
  | [], R, v, W, x, _, h => ⟨R, rfl, h, rfl⟩
  | s :: S, R, v, W, x, hw, h => by
    have f := (okS_facts hw.1).2.1
    by_cases c : levN s = 7
    · have e1 : evR η (R ++ [(s, nilA)]) = (un (sg s) v :: W, x) := by
        rw [evR_app, h]
        unfold evs
        rw [if_neg (by rw [show isOp (s, nilA).1 = isOp s from rfl, okS_op hw.1]; decide), if_pos c]
      obtain ⟨R', a1, a2, a3⟩ := stl_un η hl S (R ++ [(s, nilA)]) (un (sg s) v) W x hw.2.2 e1
      refine ⟨R', ?_, ?_, ?_⟩
      · simp only [restU, if_pos c]
        rw [← a1]
        show (if levN s < l then _ else _) = _
        rw [if_neg (by omega)]
      · simp only [List.map_cons, apU]
        rw [f, if_pos (by simp [c])]
        exact a2
      · simp only [restU, if_pos c]
        simp at a3 ⊢
        omega
    · refine ⟨R, ?_, ?_, ?_⟩
      · simp only [restU, if_neg c]
      · simp only [List.map_cons, apU]
        rw [f, if_neg (by simp [c])]
        exact h
      · simp only [restU, if_neg c]
/-- one join is one step -/
theorem ev_join (η : Int32 → AT → Int32 × Bool) {s : Int32} (hs : okS s) (hb : isB2 s = true) {R : List XSt} {a b : Int32} {W : List Int32} {m d : Bool} (h : evR η R = (b :: a :: W, m, d)) : evR η (R ++ [(s, nilA)]) = (wk (sg s) a b :: W, m, d || dvz (sg s) b) := by
  rw [evR_app, h]
  unfold evs
  rw [if_neg (by rw [show isOp (s, nilA).1 = isOp s from rfl, okS_op hs]; decide)]
  have : ¬ levN s = 7 := by
    simp only [isB2, Bool.and_eq_true, decide_eq_true_eq] at hb
    omega
  rw [if_neg this]
