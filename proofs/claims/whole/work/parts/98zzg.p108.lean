/-! ===== feed(), both sides ===== -/
def bz (z : Int64) (i : Nat) : Int32 := (jushl z (8 * nI i)).toInt32 &&& 255
def okB (c : Int32) : Bool := decide (c = 9 ∨ c = 10 ∨ (32 ≤ c ∧ c ≤ 126))
def alB (z : Int64) : Nat → Nat → Bool
  | _, 0 => true
  | i, d + 1 => okB (bz z i) && alB z (i + 1) d
def fb (z : Int64) : Nat → List Int32
  | 0 => []
  | k + 1 => bz z k :: fb z k
theorem fb_len (z : Int64) : ∀ k, (fb z k).length = k
  | 0 => rfl
  | k + 1 => by rw [fb, List.length_cons, fb_len z k]
theorem al_at (z : Int64) : ∀ (d i : Nat), alB z i d = true → ∀ j, i ≤ j → j < i + d → okB (bz z j) = true
  | 0, i, _, j, h1, h2 => by omega
  | d + 1, i, h, j, h1, h2 => by
    rw [alB, Bool.and_eq_true] at h
    by_cases hj : j = i
    · rw [hj]; exact h.1
    · exact al_at z d (i + 1) h.2 j (by omega) (by omega)
theorem C_isOf (c : Int32) : C_Asm_isOfText c = some (b2 (okB c)) := by
  unfold C_Asm_isOfText C_Asm_isOfText_24 C_Asm_isOfText_28 C_Asm_isOfText_29 okB
  by_cases h9 : c = 9
  · rw [if_pos h9, decide_eq_true (Or.inl h9)]; rfl
  rw [if_neg h9]
  by_cases h10 : c = 10
  · rw [if_pos h10, decide_eq_true (Or.inr (Or.inl h10))]; rfl
  rw [if_neg h10]
  by_cases h32 : c < 32
  · rw [if_pos h32, decide_eq_false (fun z => by rcases z with z | z | z; exact h9 z; exact h10 z; exact absurd h32 (Int32.not_lt.mpr z.1))]; rfl
  rw [if_neg h32]
  by_cases h126 : 126 < c
  · rw [if_pos h126, decide_eq_false (fun z => by rcases z with z | z | z; exact h9 z; exact h10 z; exact absurd h126 (Int32.not_lt.mpr z.2))]; rfl
  · rw [if_neg h126, decide_eq_true (Or.inr (Or.inr ⟨Int32.not_lt.mp h32, Int32.not_lt.mp h126⟩))]; rfl
section
variable {N : Nat} {X : List Int32} {sG sR sL sX sP sI sE sY sN sT sF' : CS} {σ : MS} {x y : Nat}
theorem C_f67 (z : Int64) : ∀ (k m : Nat) (X : List Int32) (sX : CS), k ≤ 8 → k < m → RowL sX X → X.length + k ≤ 5000 → RC (2 * sX.2.2 0 + x, sX.2.2 0 + y) (C_Asm_feed_67 N m z (nI k - 1) sG sR sL sX sE sY sF' sN sT sP sI) (fun v u c => v = 1 ∧ RowL u (X ++ fb z k) ∧ c = (2 * u.2.2 0 + x, u.2.2 0 + y)) := by
  intro k
  induction k with
  | zero =>
    intro m X sX _ hm hX _
    obtain ⟨m', rfl⟩ : ∃ m', m = m' + 1 := ⟨m - 1, by omega⟩
    rw [C_Asm_feed_67]
    exact RC_y (by decide) (RC_ret ⟨rfl, by rw [fb, List.append_nil]; exact hX, rfl⟩)
  | succ k ih =>
    intro m X sX h8 hm hX hl
    obtain ⟨m', rfl⟩ : ∃ m', m = m' + 1 := ⟨m - 1, by omega⟩
    rw [show nI (k + 1) - 1 = nI k from pk_sub (a := k + 1) (b := 1) (by omega), C_Asm_feed_67]
    refine RC_n (nI_pos (by omega)) (RC_then (RC_add hX (by omega) _ x y) (fun v u c hu => ?_))
    obtain ⟨u1, rfl⟩ := hu
    rw [show nI k + -1 = nI k - 1 from (Int32.sub_eq_add_neg ..).symm]
    refine RC_imp (ih m' (X ++ [bz z k]) u (by omega) (by omega) u1 (by rw [List.length_append]; simp only [List.length_cons, List.length_nil]; omega)) (fun v w c hw => ⟨hw.1, ?_, hw.2.2⟩)
    rw [fb]
    have := hw.2.1
    rw [List.append_assoc] at this
    exact this
theorem C_f30 (hN : 100 < N) (z : Int64) {n : Nat} (hn : n ≤ 8) (hX : RowL sX X) (hl : X.length ≤ 4096) : ∀ (d i m : Nat), i + d = n → d < m → RC (2 * sX.2.2 0 + x, sX.2.2 0 + y) (C_Asm_feed_30 N m z (nI n) (nI i) sG sR sL sX sE sY sF' sN sT sP sI) (fun v u c => v = b2 (alB z i d) ∧ RowL u (if alB z i d = true then X ++ fb z n else X) ∧ c = (2 * u.2.2 0 + x, u.2.2 0 + y)) := by
  intro d
  induction d with
  | zero =>
    intro i m hi hm
    obtain ⟨m', rfl⟩ : ∃ m', m = m' + 1 := ⟨m - 1, by omega⟩
    rw [C_Asm_feed_30]
    refine RC_y (by rw [show i = n by omega]; exact Int32.le_refl _) ?_
    refine RC_imp (C_f67 z n N X sX hn (by omega) hX (by omega)) (fun v u c hu => ⟨hu.1, ?_, hu.2.2⟩)
    rw [alB, if_pos rfl]
    exact hu.2.1
  | succ d ih =>
    intro i m hi hm
    obtain ⟨m', rfl⟩ : ∃ m', m = m' + 1 := ⟨m - 1, by omega⟩
    rw [C_Asm_feed_30]
    refine RC_n (fun z => absurd ((nI_leI (by omega) (by omega)).mp z) (by omega)) (RC_cr (C_isOf _) ?_)
    have hb : (jushl z (8 * nI i)).toInt32 &&& 255 = bz z i := rfl
    rw [hb, show nI i + 1 = nI (i + 1) from nI_add i 1]
    by_cases hk : okB (bz z i) = true
    · rw [hk]
      refine RC_n (by decide) ?_
      have := ih (i + 1) m' (by omega) (by omega)
      rw [alB, hk, Bool.true_and]
      exact this
    · have hk' : okB (bz z i) = false := by simpa using hk
      rw [hk']
      refine RC_y rfl (RC_ret ⟨?_, ?_, rfl⟩)
      · rw [alB, hk']; rfl
      · rw [alB, hk', Bool.false_and, if_neg (by decide)]; exact hX
end
