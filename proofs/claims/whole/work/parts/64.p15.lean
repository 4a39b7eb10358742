/-! ===== the class's compile over tokens; the reference's expression beside it ===== -/
def hiB : List Int32 := [104, 105]
def loB : List Int32 := [108, 111]
def dotB : List Int32 := [46]
def nmK (a : AT) : Int32 := if a.nm = dotB then 7 else 2
def nrK (a : AT) : Int32 := if a.v &&& 1 = 1 then 9 else 8
def fst2 : List AT → Option (AT × AT × List AT)
  | b :: c :: r => some (b, c, r)
  | _ => none
def cmpA : Nat → List AT → Bool → Nat → List Int32 → List XSt → Option (List Int32 × List XSt × Nat × List AT)
  | 0, _, _, _, _, _ => none
  | _ + 1, [], _, _, _, _ => none
  | n + 1, a :: r, true, o, S, R =>
    if a.k = 37 then (fst2 r).bind (fun x => if AT.k x.1 = 2 ∧ (AT.nm x.1 = hiB ∨ AT.nm x.1 = loB) ∧ AT.k x.2.1 = 40 then cmpA n x.2.2 true (o + 1) (40 :: (if AT.nm x.1 = hiB then 12 else 13) :: S) R else none)
    else if a.k = 3 ∨ a.k = 4 then cmpA n r false o S (R ++ [(3, a)])
    else if a.k = 2 then cmpA n r false o S (R ++ [(nmK a, a)])
    else if a.k = 5 then cmpA n r false o S (R ++ [(nrK a, a)])
    else if a.k = 45 then cmpA n r true o (10 :: S) R
    else if a.k = 126 then cmpA n r true o (11 :: S) R
    else if a.k = 40 then cmpA n r true (o + 1) (40 :: S) R
    else none
  | n + 1, a :: r, false, o, S, R =>
    if a.k = 41 ∧ 0 < o then cmpA n r false (o - 1) (stl 1 S R).1.tail (stl 1 S R).2
    else if 0 < levN a.k then cmpA n r true o (a.k :: (stl (levN a.k) S R).1) (stl (levN a.k) S R).2
    else some (S, R, o, a :: r)
/-- what an expression leaves as it was -/
def FE (σ0 σ : MS) : Prop := (∀ j, (j < 9 ∨ 14 < j) → j ≠ 24 → j ≠ 25 → j ≠ 26 → j ≠ 27 → j ≠ 28 → σ.1 j = σ0.1 j) ∧ (∀ k, k ≠ 7 → σ.2 k = σ0.2 k)
theorem FE.fx {σ0 σ σ' : MS} (h : FE σ0 σ) (h2 : FX σ σ') : FE σ0 σ' := ⟨fun j a b c d e f => (h2.1 j c e f).trans (h.1 j a b c d e f), fun k hk => (h2.2 k hk).trans (h.2 k hk)⟩
theorem FE.sc {σ0 σ σ' : MS} {X : List Int32} {q : Nat} {a : AT} (h : FE σ0 σ) (h2 : SC σ σ' X q a) : FE σ0 σ' := ⟨fun j hj b c d e f => (h2.1 j (by omega) (by omega) (by omega) (by omega) (by omega)).trans (h.1 j hj b c d e f), fun k hk => by rw [h2.2.1]; exact h.2 k hk⟩
theorem FE.sF {σ0 σ : MS} (h : FE σ0 σ) {j : Nat} (v : Int32) (hj : (9 ≤ j ∧ j ≤ 14) ∨ (24 ≤ j ∧ j ≤ 28)) : FE σ0 (sF σ j v) := ⟨fun i a b c d e f => by rw [sF_ne _ _ (by omega)]; exact h.1 i a b c d e f, fun k hk => h.2 k hk⟩
theorem FE.tx {σ0 σ : MS} (h : FE σ0 σ) {w : Nat → Int32} {n : Nat} (T : TX σ0 w n) : TX σ w n := ⟨by rw [h.1 2 (by omega) (by decide) (by decide) (by decide) (by decide) (by decide)]; exact T.size, fun k hk => by rw [h.2 1 (by decide)]; exact T.text k hk, T.small⟩
theorem PS.sc {σ σ' : MS} {X : List Int32} {q : Nat} {a : AT} {S V : List Int32} (h : PS σ S V) (h2 : SC σ σ' X q a) : PS σ' S V := by
  obtain ⟨h1, h2', h3, h4, h5⟩ := h
  refine ⟨by rw [h2.1 27 (by decide) (by decide) (by decide) (by decide) (by decide)]; exact h1, by rw [h2.1 28 (by decide) (by decide) (by decide) (by decide) (by decide)]; exact h2', h3, ?_, ?_⟩
  · intro i hi; rw [h2.2.1]; exact h4 i hi
  · intro i hi; rw [h2.2.1]; exact h5 i hi
theorem PS.sF {σ : MS} {S V : List Int32} (h : PS σ S V) {j : Nat} (v : Int32) (h7 : j ≠ 27) (h8 : j ≠ 28) : PS (sF σ j v) S V := ⟨by rw [sF_ne _ _ (Ne.symm h7)]; exact h.1, by rw [sF_ne _ _ (Ne.symm h8)]; exact h.2.1, h.2.2⟩
theorem evs_len (η : Int32 → AT → Int32 × Bool) (V : EvS) (s : XSt) : (evs η V s).1.length ≤ V.1.length + 1 := by
  unfold evs
  split
  · simp
  · split
    · split
      · rename_i h; rw [h]; simp
      · omega
    · split
      · rename_i h; rw [h]; simp
      · omega
theorem evR_len (η : Int32 → AT → Int32 × Bool) (R : List XSt) : (evR η R).1.length ≤ R.length := by
  unfold evR
  have : ∀ (R : List XSt) (V : EvS), (R.foldl (evs η) V).1.length ≤ V.1.length + R.length := by
    intro R
    induction R with
    | nil => intro V; simp
    | cons s R ih =>
      intro V
      have h1 := ih (evs η V s)
      have h2 := evs_len η V s
      simp only [List.foldl_cons, List.length_cons]
      omega
  have h := this R ([], false, false)
  simpa using h
/-- which steps are not fixed -/
def lz (lo : AT → Bool) (s : XSt) : Bool := if s.1 = 2 ∨ s.1 = 7 then lo s.2 else decide (s.1 = 8 ∨ s.1 = 9)
theorem lz_sg {lo : AT → Bool} {s : Int32} (h : okS s) : lz lo (s, nilA) = false := by
  have h1 : ¬ (s = 2 ∨ s = 7) ∧ ¬ (s = 8 ∨ s = 9) := by
    rcases h with h | h | h | h | h | h | h | h | h | h | h | h | h | h | h <;> subst h <;> decide
  show (if s = 2 ∨ s = 7 then lo nilA else decide (s = 8 ∨ s = 9)) = false
  rw [if_neg h1.1, decide_eq_false h1.2]
theorem stl_any {lo : AT → Bool} {l : Nat} : ∀ (S : List Int32) (R : List XSt), WFs S → (stl l S R).2.any (lz lo) = R.any (lz lo)
  | [], R, _ => rfl
  | s :: S, R, h => by
    simp only [stl]
    split
    · rfl
    · rw [stl_any S _ h.2.2]
      simp [lz_sg h.1]
def c40 (S : List Int32) : Nat := (S.filter (fun s => decide (s = 40))).length
theorem stl_c40 {l : Nat} (hl : 1 ≤ l) : ∀ (S : List Int32) (R : List XSt), c40 (stl l S R).1 = c40 S
  | [], R => rfl
  | s :: S, R => by
    simp only [stl]
    split
    · rfl
    · rename_i h
      rw [stl_c40 hl S _]
      have : ¬ s = 40 := fun z => by subst z; exact h (by show 0 < l; omega)
      simp [c40, this]
theorem c40_mem {S : List Int32} (h : 0 < c40 S) : 40 ∈ S := by
  unfold c40 at h
  obtain ⟨x, hx⟩ := List.exists_mem_of_length_pos h
  simp only [List.mem_filter, decide_eq_true_eq] at hx
  rw [← hx.2]; exact hx.1
theorem c40_not {S : List Int32} (h : c40 S = 0) : 40 ∉ S := by
  intro hm
  have : (40 : Int32) ∈ S.filter (fun s => decide (s = 40)) := by simp [hm]
  unfold c40 at h
  rw [List.length_eq_zero_iff.mp h] at this
  cases this
theorem restU_mem {S : List Int32} (h : 40 ∈ S) : 40 ∈ restU S := by
  induction S with
  | nil => cases h
  | cons s S ih =>
    simp only [restU]
    split
    · rename_i c
      rcases List.mem_cons.mp h with h | h
      · subst h; exact absurd c (by decide)
      · exact ih h
    · exact h
theorem restU_sub {S : List Int32} {x : Int32} (h : x ∈ restU S) : x ∈ S := by
  induction S with
  | nil => cases h
  | cons s S ih =>
    simp only [restU] at h
    split at h
    · exact List.mem_cons_of_mem _ (ih h)
    · exact h
theorem M_blame_eq {σ : MS} (x : Int32) (h : σ.1 14 = 0) : M_blame x σ = some (0, sF σ 14 (x + 16 * σ.1 15)) := by
  unfold M_blame M_blame_20
  rw [if_pos h]
  rfl
theorem M_blame_no {σ : MS} (x : Int32) (h : σ.1 14 ≠ 0) : M_blame x σ = some (0, σ) := by
  unfold M_blame M_blame_20
  rw [if_neg h]
/-- where a fault stands, the expression ends, and leaves all as it is -/
theorem expr_fault255 {N n : Nat} {σ : MS} (h : σ.1 14 ≠ 0) : M_expression_255 N (n + 1) σ = some (0, σ) := by
  have e : M_expression_276 N σ = some (0, σ) := by
    unfold M_expression_276
    rw [if_neg h]
    unfold M_expression_296 M_expression_338 M_expression_320 M_expression_335 M_expression_338
    simp only [M_blame_no _ h, cl, Option.bind_some]
    split
    · split
      · split <;> rfl
      · rfl
    · rfl
  rw [M_expression_255]
  show (if σ.1 27 ≤ 0 then _ else _) = _
  split
  · exact e
  · exact e
theorem expr_fault {N n : Nat} {σ : MS} {x1 x2 x3 : Int32} (hN : 0 < N) (h : σ.1 14 ≠ 0) : M_expression_33 N (n + 1) x1 x2 x3 σ = some (0, σ) := by
  obtain ⟨N', rfl⟩ : ∃ N', N = N' + 1 := ⟨N - 1, by omega⟩
  rw [M_expression_33]
  show (if x3 = 0 then _ else _) = _
  split
  · exact expr_fault255 h
  · exact expr_fault255 h
